/-! SMALL NUMBERS: the ints that the class and the reference hold, as naturals -/
def zN (k : Nat) : Int32 := Int32.ofNat k
theorem zl_0 : (0 : Int32) = zN 0 := rfl
theorem zl_1 : (1 : Int32) = zN 1 := rfl
theorem zl_2 : (2 : Int32) = zN 2 := rfl
theorem zl_3 : (3 : Int32) = zN 3 := rfl
theorem zl_4 : (4 : Int32) = zN 4 := rfl
theorem zl_5 : (5 : Int32) = zN 5 := rfl
theorem zl_6 : (6 : Int32) = zN 6 := rfl
theorem zl_7 : (7 : Int32) = zN 7 := rfl
theorem zl_8 : (8 : Int32) = zN 8 := rfl
theorem zl_9 : (9 : Int32) = zN 9 := rfl
theorem zl_10 : (10 : Int32) = zN 10 := rfl
theorem zl_11 : (11 : Int32) = zN 11 := rfl
theorem zl_12 : (12 : Int32) = zN 12 := rfl
theorem zl_16 : (16 : Int32) = zN 16 := rfl
theorem zl_20 : (20 : Int32) = zN 20 := rfl
theorem zl_26 : (26 : Int32) = zN 26 := rfl
theorem zl_30 : (30 : Int32) = zN 30 := rfl
theorem zl_31 : (31 : Int32) = zN 31 := rfl
theorem zl_33 : (33 : Int32) = zN 33 := rfl
theorem zl_35 : (35 : Int32) = zN 35 := rfl
theorem zl_36 : (36 : Int32) = zN 36 := rfl
theorem zl_40 : (40 : Int32) = zN 40 := rfl
theorem zl_46 : (46 : Int32) = zN 46 := rfl
theorem zl_48 : (48 : Int32) = zN 48 := rfl
theorem zl_49 : (49 : Int32) = zN 49 := rfl
theorem zl_50 : (50 : Int32) = zN 50 := rfl
theorem zl_57 : (57 : Int32) = zN 57 := rfl
theorem zl_60 : (60 : Int32) = zN 60 := rfl
theorem zl_64 : (64 : Int32) = zN 64 := rfl
theorem zl_65 : (65 : Int32) = zN 65 := rfl
theorem zl_72 : (72 : Int32) = zN 72 := rfl
theorem zl_74 : (74 : Int32) = zN 74 := rfl
theorem zl_75 : (75 : Int32) = zN 75 := rfl
theorem zl_90 : (90 : Int32) = zN 90 := rfl
theorem zl_95 : (95 : Int32) = zN 95 := rfl
theorem zl_99 : (99 : Int32) = zN 99 := rfl
theorem zl_100 : (100 : Int32) = zN 100 := rfl
theorem zl_120 : (120 : Int32) = zN 120 := rfl
theorem zl_126 : (126 : Int32) = zN 126 := rfl
theorem zl_127 : (127 : Int32) = zN 127 := rfl
theorem zl_128 : (128 : Int32) = zN 128 := rfl
theorem zl_200 : (200 : Int32) = zN 200 := rfl
theorem zl_1023 : (1023 : Int32) = zN 1023 := rfl
theorem zl_1024 : (1024 : Int32) = zN 1024 := rfl
theorem zl_9999 : (9999 : Int32) = zN 9999 := rfl
theorem zl_65537 : (65537 : Int32) = zN 65537 := rfl
theorem zl_9999999 : (9999999 : Int32) = zN 9999999 := rfl
theorem zl_10240 : (10240 : Int32) = zN 10240 := rfl
theorem zl_1000000 : (1000000 : Int32) = zN 1000000 := rfl
theorem zN_add (a b : Nat) : zN a + zN b = zN (a + b) := (Int32.ofNat_add a b).symm
theorem zN_mul (a b : Nat) : zN a * zN b = zN (a * b) := (Int32.ofNat_mul a b).symm
theorem zN_sub {a b : Nat} (h : b ≤ a) : zN a - zN b = zN (a - b) := (Int32.ofNat_sub a b h).symm
theorem zN_subn {a b : Nat} (h : b ≤ a) : zN a + -(zN b) = zN (a - b) := by
  rw [Int32.add_neg_eq_sub]
  exact zN_sub h
theorem zN_toInt {a : Nat} (h : a < 2147483648) : (zN a).toInt = a := Int32.toInt_ofNat_of_lt h
theorem zN_ntoInt {a : Nat} (h : a < 2147483648) : (-(zN a)).toInt = -(a : Int) := by
  rw [Int32.toInt_neg, zN_toInt h]
  apply Int.bmod_eq_of_le <;> omega
theorem zN_div {a b : Nat} (ha : a < 2147483648) (hb : b < 2147483648) : zN a / zN b = zN (a / b) := (Int32.ofNat_div ha hb).symm
theorem zN_rem {a b : Nat} (ha : a < 2147483648) (hb : b < 2147483648) : zRem (zN a) (zN b) = zN (a % b) := by
  unfold zRem
  rw [zN_div ha hb, zN_mul, zN_sub (Nat.div_mul_le_self a b)]
  congr 1
  have := Nat.mod_add_div a b
  rw [Nat.mul_comm] at this
  omega
theorem zN_inj {a b : Nat} (ha : a < 2147483648) (hb : b < 2147483648) : (zN a = zN b) ↔ a = b := by
  rw [← Int32.toInt_inj, zN_toInt ha, zN_toInt hb]
  omega
theorem zN_lt {a b : Nat} (ha : a < 2147483648) (hb : b < 2147483648) : (zN a < zN b) ↔ a < b := Int32.ofNat_lt_iff_lt ha hb
theorem zN_le {a b : Nat} (ha : a < 2147483648) (hb : b < 2147483648) : (zN a ≤ zN b) ↔ a ≤ b := Int32.ofNat_le_iff_le ha hb
theorem zN_tn {a : Nat} (h : a < 2147483648) : Int32.toNatClampNeg (zN a) = a := Int32.toNatClampNeg_ofNat_of_lt h
theorem zN_in {a n : Nat} (h : a < 2147483648) : zIn (zN a) n ↔ a < n := by
  unfold zIn
  rw [zN_tn h, show ((0 : Int32) = zN 0) from rfl, zN_lt h (by decide)]
  omega
theorem zN_ne {a b : Nat} (ha : a < 2147483648) (hb : b < 2147483648) (h0 : 0 < b) : (zN a = -(zN b)) ↔ False := by
  rw [← Int32.toInt_inj, zN_toInt ha, zN_ntoInt hb]
  constructor
  · intro h
    omega
  · intro h
    exact h.elim
theorem zN_ne2 {a b : Nat} (ha : a < 2147483648) (hb : b < 2147483648) (h0 : 0 < b) : (-(zN b) = zN a) ↔ False := by
  rw [← Int32.toInt_inj, zN_toInt ha, zN_ntoInt hb]
  constructor
  · intro h
    omega
  · intro h
    exact h.elim
theorem zN_ltn {a b : Nat} (ha : a < 2147483648) (hb : b < 2147483648) : (zN a < -(zN b)) ↔ False := by
  rw [Int32.lt_iff_toInt_lt, zN_toInt ha, zN_ntoInt hb]
  constructor
  · intro h
    omega
  · intro h
    exact h.elim
theorem zN_nlt {a b : Nat} (ha : a < 2147483648) (hb : b < 2147483648) (h0 : 0 < b) : (-(zN b) < zN a) ↔ True := by
  rw [Int32.lt_iff_toInt_lt, zN_toInt ha, zN_ntoInt hb]
  constructor
  · intro h
    trivial
  · intro h
    omega
theorem zN_len {a b : Nat} (ha : a < 2147483648) (hb : b < 2147483648) (h0 : 0 < b) : (zN a ≤ -(zN b)) ↔ False := by
  rw [Int32.le_iff_toInt_le, zN_toInt ha, zN_ntoInt hb]
  constructor
  · intro h
    omega
  · intro h
    exact h.elim
theorem zN_nle {a b : Nat} (ha : a < 2147483648) (hb : b < 2147483648) : (-(zN b) ≤ zN a) ↔ True := by
  rw [Int32.le_iff_toInt_le, zN_toInt ha, zN_ntoInt hb]
  constructor
  · intro h
    trivial
  · intro h
    omega
theorem zN_nn {a b : Nat} (ha : a < 2147483648) (hb : b < 2147483648) : (-(zN a) = -(zN b)) ↔ a = b := by
  rw [← Int32.toInt_inj, zN_ntoInt ha, zN_ntoInt hb]
  omega
theorem zN_or (a b : Nat) : zN a ||| zN b = zN (a ||| b) := Int32.toBitVec_inj.1 (BitVec.ofNat_or (x := a) (y := b)).symm
theorem zN_and (a b : Nat) : zN a &&& zN b = zN (a &&& b) := Int32.toBitVec_inj.1 (BitVec.ofNat_and (x := a) (y := b)).symm
theorem zN_xor (a b : Nat) : zN a ^^^ zN b = zN (a ^^^ b) := Int32.toBitVec_inj.1 (BitVec.ofNat_xor (x := a) (y := b)).symm
theorem zN_sh0 : ∀ k : Nat, k < 32 → ((zN k &&& 31).toBitVec.smod 32#32).toNat = k := by decide +kernel
theorem zN_shl (a : Nat) {k : Nat} (h : k < 32) : zShl (zN a) (zN k) = zN (a <<< k) := by
  unfold zShl
  apply Int32.toBitVec_inj.1
  rw [Int32.toBitVec_shiftLeft, BitVec.shiftLeft_eq']
  have e : ((zN k &&& 31).toBitVec.smod 32).toNat = k := zN_sh0 k h
  rw [e]
  apply BitVec.eq_of_toNat_eq
  show (((BitVec.ofNat 32 a) <<< k : BitVec 32)).toNat = (BitVec.ofNat 32 (a <<< k)).toNat
  rw [BitVec.toNat_shiftLeft, BitVec.toNat_ofNat, BitVec.toNat_ofNat, Nat.shiftLeft_eq, Nat.shiftLeft_eq, Nat.mod_mul_mod]
theorem zN_shr {a k : Nat} (ha : a < 2147483648) (h : k < 32) : zShr (zN a) (zN k) = zN (a >>> k) := by
  unfold zShr
  apply Int32.toBitVec_inj.1
  rw [Int32.toBitVec_shiftRight, BitVec.sshiftRight_eq']
  have e : ((zN k &&& 31).toBitVec.smod 32).toNat = k := zN_sh0 k h
  rw [e]
  have hm : (BitVec.ofNat 32 a).msb = false := by
    rw [BitVec.msb_eq_decide, BitVec.toNat_ofNat, Nat.mod_eq_of_lt (by omega)]
    simp
    omega
  show (BitVec.ofNat 32 a).sshiftRight k = BitVec.ofNat 32 (a >>> k)
  rw [BitVec.sshiftRight_eq_of_msb_false hm]
  apply BitVec.eq_of_toNat_eq
  rw [BitVec.toNat_ushiftRight, BitVec.toNat_ofNat, BitVec.toNat_ofNat, Nat.mod_eq_of_lt (by omega), Nat.mod_eq_of_lt]
  exact Nat.lt_of_le_of_lt (Nat.shiftRight_le a k) (by omega)
/-- a truth as the machine holds it -/
def zB (b : Bool) : Int32 := bif b then zN 1 else zN 0
theorem zB_t : zB true = zN 1 := rfl
theorem zB_f : zB false = zN 0 := rfl
theorem zB_0 (b : Bool) : (zB b = zN 0) ↔ b = false := by cases b <;> decide
theorem zB_1 (b : Bool) : (zB b = zN 1) ↔ b = true := by cases b <;> decide
theorem zB_01 (b : Bool) : (zB b = zN 0 ∨ zB b = zN 1) ↔ True := by cases b <;> decide
theorem zB_o (b : Bool) : zB b = 0 ∨ zB b = 1 := (zB_01 b).mpr trivial
theorem zB_eq (a b : Bool) : (zB a = zB b) ↔ a = b := by cases a <;> cases b <;> decide
theorem zB_if {c : Prop} [Decidable c] : (if c then zN 1 else zN 0) = zB (decide c) := by
  by_cases h : c <;> simp [h, zB]
theorem zB_ifs {c : Prop} [Decidable c] : (if c then some (zN 1) else some (zN 0)) = some (zB (decide c)) := by
  by_cases h : c <;> simp [h, zB]
theorem zB_ifn {c : Prop} [Decidable c] : (if c then some (zN 0) else some (zN 1)) = some (zB (!(decide c))) := by
  by_cases h : c <;> simp [h, zB]
theorem zN_bit {a k : Nat} (ha : a < 2147483648) (h : k < 32) : zShr (zN a) (zN k) &&& zN 1 = zB (a.testBit k) := by
  rw [zN_shr ha h, zN_and, Nat.and_one_is_mod]
  have e := Nat.toNat_testBit a k
  rw [Nat.shiftRight_eq_div_pow, ← e]
  cases a.testBit k <;> rfl
/-- none, or a small number -/
def zE (k : Nat) : Int32 := if k < 100 then zN k else -(zN 6)
theorem zE_lt {k : Nat} (h : k < 100) : zE k = zN k := if_pos h
theorem zE_ge {k : Nat} (h : 100 ≤ k) : zE k = -(zN 6) := if_neg (by omega)
theorem zE_none (k : Nat) : (zE k = -(zN 6)) ↔ 100 ≤ k := by
  unfold zE
  split
  · rename_i h
    rw [zN_ne (by omega) (by decide) (by decide)]
    exact ⟨fun z => z.elim, fun z => by omega⟩
  · rename_i h
    exact ⟨fun _ => by omega, fun _ => rfl⟩
theorem zE_none2 (k : Nat) : (-(zN 6) = zE k) ↔ 100 ≤ k := by
  rw [← zE_none k]
  exact eq_comm
theorem zE_eq {k a : Nat} (h : a < 100) : (zE k = zN a) ↔ k = a := by
  unfold zE
  split
  · rename_i h1
    rw [zN_inj (by omega) (by omega)]
  · rename_i h1
    rw [zN_ne2 (by omega) (by decide) (by decide)]
    constructor
    · exact False.elim
    · intro h
      omega
theorem zE_inj {k a : Nat} (hk : k ≤ 100) (h : a ≤ 100) : (zE k = zE a) ↔ k = a := by
  by_cases h1 : a < 100
  · rw [zE_lt h1, zE_eq h1]
  · rw [zE_ge (show 100 ≤ a by omega), zE_none]
    omega
theorem zE_neg (k : Nat) : (zE k < zN 0) ↔ 100 ≤ k := by
  unfold zE
  split
  · rename_i h
    rw [zN_lt (by omega) (by decide)]
    omega
  · rename_i h
    exact ⟨fun _ => by omega, fun _ => by decide⟩
theorem zE_pos (k : Nat) : (zN 0 ≤ zE k) ↔ k < 100 := by
  unfold zE
  split
  · rename_i h
    rw [zN_le (by decide) (by omega)]
    omega
  · rename_i h
    exact ⟨fun h => absurd h (by decide), fun h1 => absurd h1 h⟩
theorem zE_ltk {k a : Nat} (h : a < 2147483648) : (zE k < zN a) ↔ (k < a ∨ 100 ≤ k) := by
  unfold zE
  split
  · rename_i h1
    rw [zN_lt (by omega) h]
    omega
  · rename_i h1
    exact ⟨fun _ => Or.inr (by omega), fun _ => by
      rw [Int32.lt_iff_toInt_lt, zN_toInt h, zN_ntoInt (by decide)]
      omega⟩
theorem zE_lek {k a : Nat} (h : a < 2147483648) : (zN a ≤ zE k) ↔ (a ≤ k ∧ k < 100) := by
  unfold zE
  split
  · rename_i h1
    rw [zN_le h (by omega)]
    omega
  · rename_i h1
    exact ⟨fun hh => by
      rw [Int32.le_iff_toInt_le, zN_toInt h, zN_ntoInt (by decide)] at hh
      omega, fun hh => by omega⟩
/-- bits of a that b doesn't have -/
def zAn (a b : Nat) : Nat := a ^^^ (a &&& b)
theorem zAn_bit (a b i : Nat) : (zAn a b).testBit i = (a.testBit i && !b.testBit i) := by
  unfold zAn
  rw [Nat.testBit_xor, Nat.testBit_and]
  cases a.testBit i <;> cases b.testBit i <;> rfl
theorem zN_an (a b : Nat) : zN a &&& (zN b ^^^ -(zN 1)) = zN (zAn a b) := by
  unfold zAn
  rw [← zN_xor, ← zN_and]
  apply Int32.toBitVec_inj.1
  rw [Int32.toBitVec_and, Int32.toBitVec_xor, Int32.toBitVec_xor, Int32.toBitVec_and]
  generalize (zN a).toBitVec = x
  generalize (zN b).toBitVec = y
  rw [show (-(zN 1)).toBitVec = BitVec.allOnes 32 from by decide]
  ext i hi
  rw [BitVec.getElem_and, BitVec.getElem_xor, BitVec.getElem_xor, BitVec.getElem_and, BitVec.getElem_allOnes]
  cases x[i] <;> cases y[i] <;> rfl
theorem zAn_le (a b : Nat) : zAn a b ≤ a := by
  have e : a &&& zAn a b = zAn a b := Nat.eq_of_testBit_eq (fun i => by
    rw [Nat.testBit_and, zAn_bit]
    cases a.testBit i <;> cases b.testBit i <;> rfl)
  rw [← e]
  exact Nat.and_le_left
theorem z1_bit (k i : Nat) : (1 <<< k).testBit i = decide (k = i) := by
  rw [Nat.one_shiftLeft]
  exact Nat.testBit_two_pow
theorem z1_lt {k n : Nat} (h : k < n) : 1 <<< k < 2 ^ n := by
  rw [Nat.one_shiftLeft]
  exact Nat.pow_lt_pow_right (by decide) h
/-- within two bounds -/
def zW (lo hi : Nat) (x : Int32) : Int32 := zB (decide (zN lo ≤ x ∧ x ≤ zN hi))
theorem zW_N {lo hi k : Nat} (hl : lo < 2147483648) (hh : hi < 2147483648) (hk : k < 2147483648) : zW lo hi (zN k) = zB (decide (lo ≤ k ∧ k ≤ hi)) := by
  unfold zW
  simp only [zN_le hl hk, zN_le hk hh]
theorem zW_c (lo hi : Nat) (x : Int32) (hl : lo < 2147483648) (hh : hi < 2147483648) : (∃ k, lo ≤ k ∧ k ≤ hi ∧ x = zN k ∧ zW lo hi x = zB true) ∨ (zW lo hi x = zB false ∧ ∀ k, lo ≤ k → k ≤ hi → x ≠ zN k) := by
  by_cases h : zN lo ≤ x ∧ x ≤ zN hi
  · left
    have h1 := h.1
    have h2 := h.2
    rw [Int32.le_iff_toInt_le, zN_toInt hl] at h1
    rw [Int32.le_iff_toInt_le, zN_toInt hh] at h2
    have e : x = zN x.toInt.toNat := by
      rw [← Int32.toInt_inj, zN_toInt (by omega)]
      omega
    refine ⟨x.toInt.toNat, by omega, by omega, e, ?_⟩
    unfold zW
    rw [decide_eq_true h]
  · right
    unfold zW
    refine ⟨by rw [decide_eq_false h], fun k h1 h2 e => h ?_⟩
    subst e
    exact ⟨(zN_le (by omega) (by omega)).mpr h1, (zN_le (by omega) (by omega)).mpr h2⟩
theorem zW_bw (lo hi : Nat) (x : Int32) (I : zI) : BM_isWithin x (zN lo) (zN hi) I = some (zW lo hi x) := by
  unfold BM_isWithin zW
  by_cases h1 : x < zN lo
  · rw [if_pos h1, decide_eq_false]
    · rfl
    · rintro ⟨h2, -⟩
      rw [Int32.lt_iff_toInt_lt] at h1
      rw [Int32.le_iff_toInt_le] at h2
      omega
  · rw [if_neg h1]
    by_cases h2 : zN hi < x
    · rw [if_pos h2, decide_eq_false]
      · rfl
      · rintro ⟨-, h3⟩
        rw [Int32.lt_iff_toInt_lt] at h2
        rw [Int32.le_iff_toInt_le] at h3
        omega
    · rw [if_neg h2, decide_eq_true]
      · rfl
      · rw [Int32.lt_iff_toInt_lt] at h1 h2
        rw [Int32.le_iff_toInt_le, Int32.le_iff_toInt_le]
        omega
theorem zW_mo (lo hi : Nat) (x : Int32) (I : zI) (hl : lo < 2147483648) (hh : hi < 2147483648) : Mo_in (Int32.toInt64 x) (Int64.ofNat lo) (Int64.ofNat hi) I = some (zW lo hi x) := by
  have e1 : (Int64.ofNat lo).toInt = lo := Int64.toInt_ofNat_of_lt (by omega)
  have e2 : (Int64.ofNat hi).toInt = hi := Int64.toInt_ofNat_of_lt (by omega)
  have e3 : (Int32.toInt64 x).toInt = x.toInt := Int32.toInt_toInt64 x
  unfold Mo_in zW
  by_cases h1 : x < zN lo
  · rw [if_pos, decide_eq_false]
    · rfl
    · rintro ⟨h2, -⟩
      rw [Int32.lt_iff_toInt_lt] at h1
      rw [Int32.le_iff_toInt_le] at h2
      omega
    · rw [Int32.lt_iff_toInt_lt, zN_toInt hl] at h1
      have h3 : ¬ (0 ≤ lg_cmp (Int32.toInt64 x) (Int64.ofNat lo)) := by
        rw [lg_cmp_ge, Int64.le_iff_toInt_le]
        omega
      rw [Int32.le_iff_toInt_le] at h3
      rw [Int32.lt_iff_toInt_lt]
      omega
  · rw [if_neg]
    · by_cases h2 : zN hi < x
      · rw [if_pos, decide_eq_false]
        · rfl
        · rintro ⟨-, h3⟩
          rw [Int32.lt_iff_toInt_lt] at h2
          rw [Int32.le_iff_toInt_le] at h3
          omega
        · rw [lg_cmp_gt, Int64.lt_iff_toInt_lt]
          rw [Int32.lt_iff_toInt_lt, zN_toInt hh] at h2
          omega
      · rw [if_neg, decide_eq_true]
        · rfl
        · rw [Int32.lt_iff_toInt_lt] at h1 h2
          rw [Int32.le_iff_toInt_le, Int32.le_iff_toInt_le]
          omega
        · rw [lg_cmp_gt, Int64.lt_iff_toInt_lt]
          rw [Int32.lt_iff_toInt_lt, zN_toInt hh] at h2
          omega
    · rw [Int32.lt_iff_toInt_lt, zN_toInt hl] at h1
      have h3 : (0 ≤ lg_cmp (Int32.toInt64 x) (Int64.ofNat lo)) := by
        rw [lg_cmp_ge, Int64.le_iff_toInt_le]
        omega
      rw [Int32.le_iff_toInt_le] at h3
      rw [Int32.lt_iff_toInt_lt]
      omega
theorem zmi_0_9 (x : Int32) (I : zI) : Mo_in (Int32.toInt64 x) 0 9 I = some (zW 0 9 x) := zW_mo 0 9 x I (by decide) (by decide)
theorem zbi_0_9 (x : Int32) (I : zI) : BM_isWithin x 0 9 I = some (zW 0 9 x) := zW_bw 0 9 x I
theorem zmi_0_7 (x : Int32) (I : zI) : Mo_in (Int32.toInt64 x) 0 7 I = some (zW 0 7 x) := zW_mo 0 7 x I (by decide) (by decide)
theorem zbi_0_7 (x : Int32) (I : zI) : BM_isWithin x 0 7 I = some (zW 0 7 x) := zW_bw 0 7 x I
theorem zmi_0_11 (x : Int32) (I : zI) : Mo_in (Int32.toInt64 x) 0 11 I = some (zW 0 11 x) := zW_mo 0 11 x I (by decide) (by decide)
theorem zbi_0_11 (x : Int32) (I : zI) : BM_isWithin x 0 11 I = some (zW 0 11 x) := zW_bw 0 11 x I
theorem zmi_1_9 (x : Int32) (I : zI) : Mo_in (Int32.toInt64 x) 1 9 I = some (zW 1 9 x) := zW_mo 1 9 x I (by decide) (by decide)
theorem zbi_1_9 (x : Int32) (I : zI) : BM_isWithin x 1 9 I = some (zW 1 9 x) := zW_bw 1 9 x I
theorem zmi_33_126 (x : Int32) (I : zI) : Mo_in (Int32.toInt64 x) 33 126 I = some (zW 33 126 x) := zW_mo 33 126 x I (by decide) (by decide)
theorem zbi_33_126 (x : Int32) (I : zI) : BM_isWithin x 33 126 I = some (zW 33 126 x) := zW_bw 33 126 x I
theorem zmi_65_72 (x : Int32) (I : zI) : Mo_in (Int32.toInt64 x) 65 72 I = some (zW 65 72 x) := zW_mo 65 72 x I (by decide) (by decide)
theorem zbi_65_72 (x : Int32) (I : zI) : BM_isWithin x 65 72 I = some (zW 65 72 x) := zW_bw 65 72 x I
theorem zmi_48_57 (x : Int32) (I : zI) : Mo_in (Int32.toInt64 x) 48 57 I = some (zW 48 57 x) := zW_mo 48 57 x I (by decide) (by decide)
theorem zbi_48_57 (x : Int32) (I : zI) : BM_isWithin x 48 57 I = some (zW 48 57 x) := zW_bw 48 57 x I
theorem zmi_0_2 (x : Int32) (I : zI) : Mo_in (Int32.toInt64 x) 0 2 I = some (zW 0 2 x) := zW_mo 0 2 x I (by decide) (by decide)
theorem zbi_0_2 (x : Int32) (I : zI) : BM_isWithin x 0 2 I = some (zW 0 2 x) := zW_bw 0 2 x I
theorem zmi_0_1 (x : Int32) (I : zI) : Mo_in (Int32.toInt64 x) 0 1 I = some (zW 0 1 x) := zW_mo 0 1 x I (by decide) (by decide)
theorem zbi_0_1 (x : Int32) (I : zI) : BM_isWithin x 0 1 I = some (zW 0 1 x) := zW_bw 0 1 x I
theorem zmi_0_1023 (x : Int32) (I : zI) : Mo_in (Int32.toInt64 x) 0 1023 I = some (zW 0 1023 x) := zW_mo 0 1023 x I (by decide) (by decide)
theorem zbi_0_1023 (x : Int32) (I : zI) : BM_isWithin x 0 1023 I = some (zW 0 1023 x) := zW_bw 0 1023 x I
theorem zmi_0_9999999 (x : Int32) (I : zI) : Mo_in (Int32.toInt64 x) 0 9999999 I = some (zW 0 9999999 x) := zW_mo 0 9999999 x I (by decide) (by decide)
theorem zbi_0_9999999 (x : Int32) (I : zI) : BM_isWithin x 0 9999999 I = some (zW 0 9999999 x) := zW_bw 0 9999999 x I
theorem zmi_0_60 (x : Int32) (I : zI) : Mo_in (Int32.toInt64 x) 0 60 I = some (zW 0 60 x) := zW_mo 0 60 x I (by decide) (by decide)
theorem zbi_0_60 (x : Int32) (I : zI) : BM_isWithin x 0 60 I = some (zW 0 60 x) := zW_bw 0 60 x I
theorem zmi_2_8 (x : Int32) (I : zI) : Mo_in (Int32.toInt64 x) 2 8 I = some (zW 2 8 x) := zW_mo 2 8 x I (by decide) (by decide)
theorem zbi_2_8 (x : Int32) (I : zI) : BM_isWithin x 2 8 I = some (zW 2 8 x) := zW_bw 2 8 x I
theorem zmi_0_40 (x : Int32) (I : zI) : Mo_in (Int32.toInt64 x) 0 40 I = some (zW 0 40 x) := zW_mo 0 40 x I (by decide) (by decide)
theorem zbi_0_40 (x : Int32) (I : zI) : BM_isWithin x 0 40 I = some (zW 0 40 x) := zW_bw 0 40 x I
theorem zmi_0_12 (x : Int32) (I : zI) : Mo_in (Int32.toInt64 x) 0 12 I = some (zW 0 12 x) := zW_mo 0 12 x I (by decide) (by decide)
theorem zbi_0_12 (x : Int32) (I : zI) : BM_isWithin x 0 12 I = some (zW 0 12 x) := zW_bw 0 12 x I
theorem zmi_1_10 (x : Int32) (I : zI) : Mo_in (Int32.toInt64 x) 1 10 I = some (zW 1 10 x) := zW_mo 1 10 x I (by decide) (by decide)
theorem zbi_1_10 (x : Int32) (I : zI) : BM_isWithin x 1 10 I = some (zW 1 10 x) := zW_bw 1 10 x I
theorem zmi_0_9999 (x : Int32) (I : zI) : Mo_in (Int32.toInt64 x) 0 9999 I = some (zW 0 9999 x) := zW_mo 0 9999 x I (by decide) (by decide)
theorem zbi_0_9999 (x : Int32) (I : zI) : BM_isWithin x 0 9999 I = some (zW 0 9999 x) := zW_bw 0 9999 x I
theorem zmi_1_99 (x : Int32) (I : zI) : Mo_in (Int32.toInt64 x) 1 99 I = some (zW 1 99 x) := zW_mo 1 99 x I (by decide) (by decide)
theorem zbi_1_99 (x : Int32) (I : zI) : BM_isWithin x 1 99 I = some (zW 1 99 x) := zW_bw 1 99 x I
theorem zmi_100_111 (x : Int32) (I : zI) : Mo_in (Int32.toInt64 x) 100 111 I = some (zW 100 111 x) := zW_mo 100 111 x I (by decide) (by decide)
theorem zbi_100_111 (x : Int32) (I : zI) : BM_isWithin x 100 111 I = some (zW 100 111 x) := zW_bw 100 111 x I
theorem zmi_10_39 (x : Int32) (I : zI) : Mo_in (Int32.toInt64 x) 10 39 I = some (zW 10 39 x) := zW_mo 10 39 x I (by decide) (by decide)
theorem zbi_10_39 (x : Int32) (I : zI) : BM_isWithin x 10 39 I = some (zW 10 39 x) := zW_bw 10 39 x I
theorem zmi_40_59 (x : Int32) (I : zI) : Mo_in (Int32.toInt64 x) 40 59 I = some (zW 40 59 x) := zW_mo 40 59 x I (by decide) (by decide)
theorem zbi_40_59 (x : Int32) (I : zI) : BM_isWithin x 40 59 I = some (zW 40 59 x) := zW_bw 40 59 x I
theorem zW_01 (lo hi : Nat) (x : Int32) : (zW lo hi x = 0 ∨ zW lo hi x = 1) ↔ True := zB_01 _
theorem zbBench (x : Int32) (I : zI) : BM_isBench x I = some (zW 0 9 x) := by
  unfold BM_isBench
  rw [zbi_0_9, Option.bind_some, if_pos ((zW_01 _ _ _).mpr trivial)]
theorem zbOne (x : Int32) (I : zI) : BM_isOne x I = some (zW 0 7 x) := by
  unfold BM_isOne
  rw [zbi_0_7, Option.bind_some, if_pos ((zW_01 _ _ _).mpr trivial)]
theorem zbMem (x : Int32) (I : zI) : BM_isMemory x I = some (zW 0 11 x) := by
  unfold BM_isMemory
  rw [zbi_0_11, Option.bind_some, if_pos ((zW_01 _ _ _).mpr trivial)]
theorem zmBench (x : Int32) (I : zI) : Mo_isBench x I = some (zW 0 9 x) := by
  unfold Mo_isBench
  rw [zmi_0_9, Option.bind_some, if_pos ((zW_01 _ _ _).mpr trivial)]
theorem zmOne (x : Int32) (I : zI) : Mo_isOne x I = some (zW 0 7 x) := by
  unfold Mo_isOne
  rw [zmi_0_7, Option.bind_some, if_pos ((zW_01 _ _ _).mpr trivial)]
theorem zmMem (x : Int32) (I : zI) : Mo_isMemory x I = some (zW 0 11 x) := by
  unfold Mo_isMemory
  rw [zmi_0_11, Option.bind_some, if_pos ((zW_01 _ _ _).mpr trivial)]
theorem zmName (x : Int32) (I : zI) : Mo_isName x I = some (zW 65 72 x) := by
  unfold Mo_isName
  rw [zmi_65_72, Option.bind_some, if_pos ((zW_01 _ _ _).mpr trivial)]
theorem zbHas {a k : Nat} (I : zI) (ha : a < 2147483648) (h : k < 32) : BM_has (zN a) (zN k) I = some (zB (a.testBit k)) := by
  unfold BM_has
  rw [zl_1, zN_bit ha h]
  cases a.testBit k <;> rfl
theorem zmIsIn {a k : Nat} (I : zI) (ha : a < 2147483648) (h : k < 32) : Mo_isIn (zN a) (zN k) I = some (zB (a.testBit k)) := by
  unfold Mo_isIn
  rw [zl_1, zN_bit ha h]
  cases a.testBit k <;> rfl
theorem zUp_ne {α : Type} {f : Nat → Nat → α} {a i b : Nat} {v : α} (h : b ≠ a) : zUp f a i v b = f b := by
  funext j
  exact if_neg h
theorem zUp_eq {α : Type} (f : Nat → Nat → α) (a i : Nat) (v : α) : zUp f a i v a i = v := by
  rw [zUp_at, if_pos rfl]
theorem zUp_nj {α : Type} {f : Nat → Nat → α} {a i j : Nat} {v : α} (h : j ≠ i) : zUp f a i v a j = f a j := by
  rw [zUp_at, if_neg h]
theorem zRow_ne {α : Type} {f : Nat → Nat → α} {a b : Nat} {g : Nat → α} (h : b ≠ a) : zRow f a g b = f b := if_neg h
theorem zat_g {α : Type} {n : Nat} {x : Int32} {a b c : α} (hn : n < 2147483648) : (if x < zN 0 then a else if zN n ≤ x then a else if zIn x n then b else c) = if zN 0 ≤ x ∧ x < zN n then b else a := by
  by_cases h1 : x < zN 0
  · rw [if_pos h1, if_neg]
    rintro ⟨h2, -⟩
    rw [Int32.lt_iff_toInt_lt] at h1
    rw [Int32.le_iff_toInt_le] at h2
    omega
  · rw [if_neg h1]
    by_cases h2 : zN n ≤ x
    · rw [if_pos h2, if_neg]
      rintro ⟨-, h3⟩
      rw [Int32.lt_iff_toInt_lt] at h3
      rw [Int32.le_iff_toInt_le] at h2
      omega
    · rw [if_neg h2]
      have h3 : zN 0 ≤ x ∧ x < zN n := by
        rw [Int32.lt_iff_toInt_lt] at h1
        rw [Int32.le_iff_toInt_le] at h2
        rw [Int32.le_iff_toInt_le, Int32.lt_iff_toInt_lt]
        omega
      rw [if_pos h3, if_pos]
      rintro (h4 | h4)
      · exact h1 h4
      · have h5 := h3.2
        rw [Int32.lt_iff_toInt_lt, zN_toInt hn] at h5
        have h6 : (x.toNatClampNeg : Int) = x.toInt := Int32.cast_toNatClampNeg x h3.1
        omega
theorem zat_3 {k : Nat} (I : zI) (h : k < 10) : Rw_at_3 (zN k) I = some (I 4 k) := by
  unfold Rw_at_3
  refine (zat_g (n := 10) (by decide)).trans ?_
  rw [zN_tn (by omega), if_pos ⟨(zN_le (by decide) (by omega)).mpr (by omega), (zN_lt (by omega) (by decide)).mpr h⟩]
theorem zat_5 {k : Nat} (I : zI) (h : k < 8) : Rw_at_5 (zN k) I = some (I 6 k) := by
  unfold Rw_at_5
  refine (zat_g (n := 8) (by decide)).trans ?_
  rw [zN_tn (by omega), if_pos ⟨(zN_le (by decide) (by omega)).mpr (by omega), (zN_lt (by omega) (by decide)).mpr h⟩]
theorem zat_7 {k : Nat} (I : zI) (h : k < 12) : Rw_at_7 (zN k) I = some (I 8 k) := by
  unfold Rw_at_7
  refine (zat_g (n := 12) (by decide)).trans ?_
  rw [zN_tn (by omega), if_pos ⟨(zN_le (by decide) (by omega)).mpr (by omega), (zN_lt (by omega) (by decide)).mpr h⟩]
theorem zat_36 {k : Nat} (I : zI) (h : k < 60) : Rw_at_36 (zN k) I = some (I 37 k) := by
  unfold Rw_at_36
  refine (zat_g (n := 60) (by decide)).trans ?_
  rw [zN_tn (by omega), if_pos ⟨(zN_le (by decide) (by omega)).mpr (by omega), (zN_lt (by omega) (by decide)).mpr h⟩]
theorem zat_42 {k : Nat} (I : zI) (h : k < 8) : Rw_at_42 (zN k) I = some (I 43 k) := by
  unfold Rw_at_42
  refine (zat_g (n := 8) (by decide)).trans ?_
  rw [zN_tn (by omega), if_pos ⟨(zN_le (by decide) (by omega)).mpr (by omega), (zN_lt (by omega) (by decide)).mpr h⟩]
theorem zat_40 {k : Nat} (I : zI) (h : k < 10) : Rw_at_40 (zN k) I = some (I 41 k) := by
  unfold Rw_at_40
  refine (zat_g (n := 10) (by decide)).trans ?_
  rw [zN_tn (by omega), if_pos ⟨(zN_le (by decide) (by omega)).mpr (by omega), (zN_lt (by omega) (by decide)).mpr h⟩]
theorem zat_44 {k : Nat} (I : zI) (h : k < 12) : Rw_at_44 (zN k) I = some (I 45 k) := by
  unfold Rw_at_44
  refine (zat_g (n := 12) (by decide)).trans ?_
  rw [zN_tn (by omega), if_pos ⟨(zN_le (by decide) (by omega)).mpr (by omega), (zN_lt (by omega) (by decide)).mpr h⟩]
theorem zat_46 {k : Nat} (I : zI) (h : k < 12) : Rw_at_46 (zN k) I = some (I 47 k) := by
  unfold Rw_at_46
  refine (zat_g (n := 12) (by decide)).trans ?_
  rw [zN_tn (by omega), if_pos ⟨(zN_le (by decide) (by omega)).mpr (by omega), (zN_lt (by omega) (by decide)).mpr h⟩]
theorem zat_50 {k : Nat} (I : zI) (h : k < 12) : Rw_at_50 (zN k) I = some (I 51 k) := by
  unfold Rw_at_50
  refine (zat_g (n := 12) (by decide)).trans ?_
  rw [zN_tn (by omega), if_pos ⟨(zN_le (by decide) (by omega)).mpr (by omega), (zN_lt (by omega) (by decide)).mpr h⟩]
theorem zat_53 {k : Nat} (I : zI) (h : k < 10) : Rw_at_53 (zN k) I = some (I 54 k) := by
  unfold Rw_at_53
  refine (zat_g (n := 10) (by decide)).trans ?_
  rw [zN_tn (by omega), if_pos ⟨(zN_le (by decide) (by omega)).mpr (by omega), (zN_lt (by omega) (by decide)).mpr h⟩]
theorem zat_55 {k : Nat} (I : zI) (h : k < 100) : Rw_at_55 (zN k) I = some (I 56 k) := by
  unfold Rw_at_55
  refine (zat_g (n := 100) (by decide)).trans ?_
  rw [zN_tn (by omega), if_pos ⟨(zN_le (by decide) (by omega)).mpr (by omega), (zN_lt (by omega) (by decide)).mpr h⟩]
theorem zat_57 {k : Nat} (I : zI) (h : k < 4608) : Rw_at_57 (zN k) I = some (I 58 k) := by
  unfold Rw_at_57
  refine (zat_g (n := 4608) (by decide)).trans ?_
  rw [zN_tn (by omega), if_pos ⟨(zN_le (by decide) (by omega)).mpr (by omega), (zN_lt (by omega) (by decide)).mpr h⟩]
theorem zat_60 {k : Nat} (I : zI) (h : k < 1024) : Rw_at_60 (zN k) I = some (I 61 k) := by
  unfold Rw_at_60
  refine (zat_g (n := 1024) (by decide)).trans ?_
  rw [zN_tn (by omega), if_pos ⟨(zN_le (by decide) (by omega)).mpr (by omega), (zN_lt (by omega) (by decide)).mpr h⟩]
theorem zat_63 {k : Nat} (I : zI) (h : k < 7) : Rw_at_63 (zN k) I = some (I 64 k) := by
  unfold Rw_at_63
  refine (zat_g (n := 7) (by decide)).trans ?_
  rw [zN_tn (by omega), if_pos ⟨(zN_le (by decide) (by omega)).mpr (by omega), (zN_lt (by omega) (by decide)).mpr h⟩]
theorem zat_11 {k : Nat} (I : zI) (h : k < 8) : Rw_at_11 (zN k) I = some (I 12 k) := by
  unfold Rw_at_11
  refine (zat_g (n := 8) (by decide)).trans ?_
  rw [zN_tn (by omega), if_pos ⟨(zN_le (by decide) (by omega)).mpr (by omega), (zN_lt (by omega) (by decide)).mpr h⟩]
theorem zat_66 {k : Nat} (I : zI) (h : k < 35) : Rw_at_66 (zN k) I = some (I 67 k) := by
  unfold Rw_at_66
  refine (zat_g (n := 35) (by decide)).trans ?_
  rw [zN_tn (by omega), if_pos ⟨(zN_le (by decide) (by omega)).mpr (by omega), (zN_lt (by omega) (by decide)).mpr h⟩]
theorem zat_68 {k : Nat} (I : zI) (h : k < 8) : Rw_at_68 (zN k) I = some (I 69 k) := by
  unfold Rw_at_68
  refine (zat_g (n := 8) (by decide)).trans ?_
  rw [zN_tn (by omega), if_pos ⟨(zN_le (by decide) (by omega)).mpr (by omega), (zN_lt (by omega) (by decide)).mpr h⟩]
theorem zat_71 {k : Nat} (I : zI) (h : k < 41) : Rw_at_71 (zN k) I = some (I 72 k) := by
  unfold Rw_at_71
  refine (zat_g (n := 41) (by decide)).trans ?_
  rw [zN_tn (by omega), if_pos ⟨(zN_le (by decide) (by omega)).mpr (by omega), (zN_lt (by omega) (by decide)).mpr h⟩]
theorem zat_9 {k : Nat} (I : zI) (h : k < 12) : Rw_at_9 (zN k) I = some (I 10 k) := by
  unfold Rw_at_9
  refine (zat_g (n := 12) (by decide)).trans ?_
  rw [zN_tn (by omega), if_pos ⟨(zN_le (by decide) (by omega)).mpr (by omega), (zN_lt (by omega) (by decide)).mpr h⟩]
theorem zput_3 {k : Nat} (v : Int32) (I : zI) (h : k < 10) : Rw_put_3 (zN k) v I = some (zUp I 4 k v) := by
  unfold Rw_put_3
  refine (zat_g (n := 10) (by decide)).trans ?_
  rw [zN_tn (by omega), if_pos ⟨(zN_le (by decide) (by omega)).mpr (by omega), (zN_lt (by omega) (by decide)).mpr h⟩]
theorem zputn_3 (v : Int32) (I : zI) : Rw_put_3 (-(zN 6)) v I = some I := by
  unfold Rw_put_3
  rw [if_pos (by decide)]
theorem zput_5 {k : Nat} (v : Int32) (I : zI) (h : k < 8) : Rw_put_5 (zN k) v I = some (zUp I 6 k v) := by
  unfold Rw_put_5
  refine (zat_g (n := 8) (by decide)).trans ?_
  rw [zN_tn (by omega), if_pos ⟨(zN_le (by decide) (by omega)).mpr (by omega), (zN_lt (by omega) (by decide)).mpr h⟩]
theorem zputn_5 (v : Int32) (I : zI) : Rw_put_5 (-(zN 6)) v I = some I := by
  unfold Rw_put_5
  rw [if_pos (by decide)]
theorem zput_7 {k : Nat} (v : Int32) (I : zI) (h : k < 12) : Rw_put_7 (zN k) v I = some (zUp I 8 k v) := by
  unfold Rw_put_7
  refine (zat_g (n := 12) (by decide)).trans ?_
  rw [zN_tn (by omega), if_pos ⟨(zN_le (by decide) (by omega)).mpr (by omega), (zN_lt (by omega) (by decide)).mpr h⟩]
theorem zputn_7 (v : Int32) (I : zI) : Rw_put_7 (-(zN 6)) v I = some I := by
  unfold Rw_put_7
  rw [if_pos (by decide)]
theorem zput_9 {k : Nat} (v : Int32) (I : zI) (h : k < 12) : Rw_put_9 (zN k) v I = some (zUp I 10 k v) := by
  unfold Rw_put_9
  refine (zat_g (n := 12) (by decide)).trans ?_
  rw [zN_tn (by omega), if_pos ⟨(zN_le (by decide) (by omega)).mpr (by omega), (zN_lt (by omega) (by decide)).mpr h⟩]
theorem zputn_9 (v : Int32) (I : zI) : Rw_put_9 (-(zN 6)) v I = some I := by
  unfold Rw_put_9
  rw [if_pos (by decide)]
theorem zput_36 {k : Nat} (v : Int32) (I : zI) (h : k < 60) : Rw_put_36 (zN k) v I = some (zUp I 37 k v) := by
  unfold Rw_put_36
  refine (zat_g (n := 60) (by decide)).trans ?_
  rw [zN_tn (by omega), if_pos ⟨(zN_le (by decide) (by omega)).mpr (by omega), (zN_lt (by omega) (by decide)).mpr h⟩]
theorem zputn_36 (v : Int32) (I : zI) : Rw_put_36 (-(zN 6)) v I = some I := by
  unfold Rw_put_36
  rw [if_pos (by decide)]
theorem zput_42 {k : Nat} (v : Int32) (I : zI) (h : k < 8) : Rw_put_42 (zN k) v I = some (zUp I 43 k v) := by
  unfold Rw_put_42
  refine (zat_g (n := 8) (by decide)).trans ?_
  rw [zN_tn (by omega), if_pos ⟨(zN_le (by decide) (by omega)).mpr (by omega), (zN_lt (by omega) (by decide)).mpr h⟩]
theorem zputn_42 (v : Int32) (I : zI) : Rw_put_42 (-(zN 6)) v I = some I := by
  unfold Rw_put_42
  rw [if_pos (by decide)]
theorem zput_44 {k : Nat} (v : Int32) (I : zI) (h : k < 12) : Rw_put_44 (zN k) v I = some (zUp I 45 k v) := by
  unfold Rw_put_44
  refine (zat_g (n := 12) (by decide)).trans ?_
  rw [zN_tn (by omega), if_pos ⟨(zN_le (by decide) (by omega)).mpr (by omega), (zN_lt (by omega) (by decide)).mpr h⟩]
theorem zputn_44 (v : Int32) (I : zI) : Rw_put_44 (-(zN 6)) v I = some I := by
  unfold Rw_put_44
  rw [if_pos (by decide)]
theorem zput_46 {k : Nat} (v : Int32) (I : zI) (h : k < 12) : Rw_put_46 (zN k) v I = some (zUp I 47 k v) := by
  unfold Rw_put_46
  refine (zat_g (n := 12) (by decide)).trans ?_
  rw [zN_tn (by omega), if_pos ⟨(zN_le (by decide) (by omega)).mpr (by omega), (zN_lt (by omega) (by decide)).mpr h⟩]
theorem zputn_46 (v : Int32) (I : zI) : Rw_put_46 (-(zN 6)) v I = some I := by
  unfold Rw_put_46
  rw [if_pos (by decide)]
theorem zput_50 {k : Nat} (v : Int32) (I : zI) (h : k < 12) : Rw_put_50 (zN k) v I = some (zUp I 51 k v) := by
  unfold Rw_put_50
  refine (zat_g (n := 12) (by decide)).trans ?_
  rw [zN_tn (by omega), if_pos ⟨(zN_le (by decide) (by omega)).mpr (by omega), (zN_lt (by omega) (by decide)).mpr h⟩]
theorem zputn_50 (v : Int32) (I : zI) : Rw_put_50 (-(zN 6)) v I = some I := by
  unfold Rw_put_50
  rw [if_pos (by decide)]
theorem zput_53 {k : Nat} (v : Int32) (I : zI) (h : k < 10) : Rw_put_53 (zN k) v I = some (zUp I 54 k v) := by
  unfold Rw_put_53
  refine (zat_g (n := 10) (by decide)).trans ?_
  rw [zN_tn (by omega), if_pos ⟨(zN_le (by decide) (by omega)).mpr (by omega), (zN_lt (by omega) (by decide)).mpr h⟩]
theorem zputn_53 (v : Int32) (I : zI) : Rw_put_53 (-(zN 6)) v I = some I := by
  unfold Rw_put_53
  rw [if_pos (by decide)]
theorem zput_55 {k : Nat} (v : Int32) (I : zI) (h : k < 100) : Rw_put_55 (zN k) v I = some (zUp I 56 k v) := by
  unfold Rw_put_55
  refine (zat_g (n := 100) (by decide)).trans ?_
  rw [zN_tn (by omega), if_pos ⟨(zN_le (by decide) (by omega)).mpr (by omega), (zN_lt (by omega) (by decide)).mpr h⟩]
theorem zputn_55 (v : Int32) (I : zI) : Rw_put_55 (-(zN 6)) v I = some I := by
  unfold Rw_put_55
  rw [if_pos (by decide)]
theorem zput_57 {k : Nat} (v : Int32) (I : zI) (h : k < 4608) : Rw_put_57 (zN k) v I = some (zUp I 58 k v) := by
  unfold Rw_put_57
  refine (zat_g (n := 4608) (by decide)).trans ?_
  rw [zN_tn (by omega), if_pos ⟨(zN_le (by decide) (by omega)).mpr (by omega), (zN_lt (by omega) (by decide)).mpr h⟩]
theorem zputn_57 (v : Int32) (I : zI) : Rw_put_57 (-(zN 6)) v I = some I := by
  unfold Rw_put_57
  rw [if_pos (by decide)]
theorem zput_60 {k : Nat} (v : Int32) (I : zI) (h : k < 1024) : Rw_put_60 (zN k) v I = some (zUp I 61 k v) := by
  unfold Rw_put_60
  refine (zat_g (n := 1024) (by decide)).trans ?_
  rw [zN_tn (by omega), if_pos ⟨(zN_le (by decide) (by omega)).mpr (by omega), (zN_lt (by omega) (by decide)).mpr h⟩]
theorem zputn_60 (v : Int32) (I : zI) : Rw_put_60 (-(zN 6)) v I = some I := by
  unfold Rw_put_60
  rw [if_pos (by decide)]
theorem zput_63 {k : Nat} (v : Int32) (I : zI) (h : k < 7) : Rw_put_63 (zN k) v I = some (zUp I 64 k v) := by
  unfold Rw_put_63
  refine (zat_g (n := 7) (by decide)).trans ?_
  rw [zN_tn (by omega), if_pos ⟨(zN_le (by decide) (by omega)).mpr (by omega), (zN_lt (by omega) (by decide)).mpr h⟩]
theorem zputn_63 (v : Int32) (I : zI) : Rw_put_63 (-(zN 6)) v I = some I := by
  unfold Rw_put_63
  rw [if_pos (by decide)]
theorem zput_11 {k : Nat} (v : Int32) (I : zI) (h : k < 8) : Rw_put_11 (zN k) v I = some (zUp I 12 k v) := by
  unfold Rw_put_11
  refine (zat_g (n := 8) (by decide)).trans ?_
  rw [zN_tn (by omega), if_pos ⟨(zN_le (by decide) (by omega)).mpr (by omega), (zN_lt (by omega) (by decide)).mpr h⟩]
theorem zputn_11 (v : Int32) (I : zI) : Rw_put_11 (-(zN 6)) v I = some I := by
  unfold Rw_put_11
  rw [if_pos (by decide)]
theorem zput_66 {k : Nat} (v : Int32) (I : zI) (h : k < 35) : Rw_put_66 (zN k) v I = some (zUp I 67 k v) := by
  unfold Rw_put_66
  refine (zat_g (n := 35) (by decide)).trans ?_
  rw [zN_tn (by omega), if_pos ⟨(zN_le (by decide) (by omega)).mpr (by omega), (zN_lt (by omega) (by decide)).mpr h⟩]
theorem zputn_66 (v : Int32) (I : zI) : Rw_put_66 (-(zN 6)) v I = some I := by
  unfold Rw_put_66
  rw [if_pos (by decide)]
theorem zput_68 {k : Nat} (v : Int32) (I : zI) (h : k < 8) : Rw_put_68 (zN k) v I = some (zUp I 69 k v) := by
  unfold Rw_put_68
  refine (zat_g (n := 8) (by decide)).trans ?_
  rw [zN_tn (by omega), if_pos ⟨(zN_le (by decide) (by omega)).mpr (by omega), (zN_lt (by omega) (by decide)).mpr h⟩]
theorem zputn_68 (v : Int32) (I : zI) : Rw_put_68 (-(zN 6)) v I = some I := by
  unfold Rw_put_68
  rw [if_pos (by decide)]
theorem zatn_3 (I : zI) : Rw_at_3 (-(zN 6)) I = some (-(zN 6)) := by
  unfold Rw_at_3
  rw [if_pos (by decide)]
  rfl
theorem zatn_5 (I : zI) : Rw_at_5 (-(zN 6)) I = some (-(zN 6)) := by
  unfold Rw_at_5
  rw [if_pos (by decide)]
  rfl
theorem zatn_7 (I : zI) : Rw_at_7 (-(zN 6)) I = some (-(zN 6)) := by
  unfold Rw_at_7
  rw [if_pos (by decide)]
  rfl
theorem zatn_36 (I : zI) : Rw_at_36 (-(zN 6)) I = some (-(zN 6)) := by
  unfold Rw_at_36
  rw [if_pos (by decide)]
  rfl
theorem zatn_42 (I : zI) : Rw_at_42 (-(zN 6)) I = some (-(zN 6)) := by
  unfold Rw_at_42
  rw [if_pos (by decide)]
  rfl
theorem zatn_40 (I : zI) : Rw_at_40 (-(zN 6)) I = some (-(zN 6)) := by
  unfold Rw_at_40
  rw [if_pos (by decide)]
  rfl
theorem zatn_44 (I : zI) : Rw_at_44 (-(zN 6)) I = some (-(zN 6)) := by
  unfold Rw_at_44
  rw [if_pos (by decide)]
  rfl
theorem zatn_46 (I : zI) : Rw_at_46 (-(zN 6)) I = some (-(zN 6)) := by
  unfold Rw_at_46
  rw [if_pos (by decide)]
  rfl
theorem zatn_50 (I : zI) : Rw_at_50 (-(zN 6)) I = some (-(zN 6)) := by
  unfold Rw_at_50
  rw [if_pos (by decide)]
  rfl
theorem zatn_53 (I : zI) : Rw_at_53 (-(zN 6)) I = some (-(zN 6)) := by
  unfold Rw_at_53
  rw [if_pos (by decide)]
  rfl
theorem zatn_55 (I : zI) : Rw_at_55 (-(zN 6)) I = some (-(zN 6)) := by
  unfold Rw_at_55
  rw [if_pos (by decide)]
  rfl
theorem zatn_57 (I : zI) : Rw_at_57 (-(zN 6)) I = some (-(zN 6)) := by
  unfold Rw_at_57
  rw [if_pos (by decide)]
  rfl
theorem zatn_60 (I : zI) : Rw_at_60 (-(zN 6)) I = some (-(zN 6)) := by
  unfold Rw_at_60
  rw [if_pos (by decide)]
  rfl
theorem zatn_63 (I : zI) : Rw_at_63 (-(zN 6)) I = some (-(zN 6)) := by
  unfold Rw_at_63
  rw [if_pos (by decide)]
  rfl
theorem zatn_11 (I : zI) : Rw_at_11 (-(zN 6)) I = some (-(zN 6)) := by
  unfold Rw_at_11
  rw [if_pos (by decide)]
  rfl
theorem zatn_66 (I : zI) : Rw_at_66 (-(zN 6)) I = some (-(zN 6)) := by
  unfold Rw_at_66
  rw [if_pos (by decide)]
  rfl
theorem zatn_68 (I : zI) : Rw_at_68 (-(zN 6)) I = some (-(zN 6)) := by
  unfold Rw_at_68
  rw [if_pos (by decide)]
  rfl
theorem zatn_71 (I : zI) : Rw_at_71 (-(zN 6)) I = some (-(zN 6)) := by
  unfold Rw_at_71
  rw [if_pos (by decide)]
  rfl
theorem zatn_9 (I : zI) : Rw_at_9 (-(zN 6)) I = some (-(zN 6)) := by
  unfold Rw_at_9
  rw [if_pos (by decide)]
  rfl
