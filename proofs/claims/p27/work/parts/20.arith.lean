/-! ===== numbers of the walk ===== -/
theorem ofI (n : Nat) : Int32.ofInt (n : Int) = nI n := Int32.ofInt_eq_ofNat
theorem ofL (n : Nat) : Int64.ofInt (n : Int) = lN n := Int64.ofInt_eq_ofNat
theorem nnI {x : Int} (h : 0 ≤ x) : ∃ n : Nat, x = (n : Int) := ⟨x.toNat, by omega⟩
theorem irem_eq {x y : Int} (hx : 0 ≤ x) (hx2 : x < 2147483648) (hy : 0 < y) (hy2 : y < 2147483648) : irem x y = x % y := by
  obtain ⟨a, rfl⟩ := nnI hx
  obtain ⟨d, rfl⟩ := nnI (Int.le_of_lt hy)
  unfold irem
  rw [ofI, ofI, pk_rem (by omega) (by omega) (by omega), nI_toInt (by have := Nat.mod_le a d; omega)]
  exact Int.natCast_emod a d
theorem idiv_eq {x y : Int} (hx : 0 ≤ x) (hx2 : x < 2147483648) (hy : 0 < y) (hy2 : y < 2147483648) : idiv x y = x / y := by
  obtain ⟨a, rfl⟩ := nnI hx
  obtain ⟨d, rfl⟩ := nnI (Int.le_of_lt hy)
  unfold idiv
  rw [ofI, ofI, pk_div (by omega) (by omega) (by omega), nI_toInt (by have := Nat.div_le_self a d; omega)]
  exact Int.natCast_ediv a d
theorem lrem_eq {x y : Int} (hx : 0 ≤ x) (hx2 : x < 9223372036854775808) (hy : 0 < y) (hy2 : y < 9223372036854775808) : lrem x y = x % y := by
  obtain ⟨a, rfl⟩ := nnI hx
  obtain ⟨d, rfl⟩ := nnI (Int.le_of_lt hy)
  unfold lrem
  rw [ofL, ofL, pk_lRem (by omega) (by omega) (by omega), pk_lT (by have := Nat.mod_le a d; omega)]
  exact Int.natCast_emod a d
theorem lrem_t {x y : Int} (hx : InL x) (hy : 0 < y) (hy2 : y < 9223372036854775808) : lrem x y = Int.tmod x y := by
  unfold InL at hx
  have hq : Int.tdiv x y * y + Int.tmod x y = x := by rw [Int.mul_comm]; exact Int.mul_tdiv_add_tmod x y
  have hb : -(y) < Int.tmod x y ∧ Int.tmod x y < y := by
    rcases Int.le_total 0 x with h | h
    · have h1 := Int.tmod_nonneg y h
      have h2 := Int.tmod_lt_of_pos x hy
      omega
    · have h2 := Int.tmod_lt_of_pos (-x) hy
      have h1 := Int.tmod_nonneg y (show 0 ≤ -x by omega)
      rw [Int.neg_tmod] at h1 h2
      omega
  have e1 : Int64.ofInt x / Int64.ofInt y = Int64.ofInt (Int.tdiv x y) := (Int64.ofInt_tdiv (by have : Int64.minValue.toInt = -2^63 := rfl; omega) (by have : Int64.maxValue.toInt = 2^63 - 1 := rfl; omega) (by have : Int64.minValue.toInt = -2^63 := rfl; omega) (by have : Int64.maxValue.toInt = 2^63 - 1 := rfl; omega)).symm
  unfold lrem
  rw [e1, ← Int64.ofInt_mul, ← Int64.ofInt_sub, show x - Int.tdiv x y * y = Int.tmod x y by omega]
  exact o64 (by unfold InL; omega)
theorem sh_k : ∀ n, n < 32 → ((nI n &&& 31).toBitVec.smod 32).toNat = n := by decide +kernel
theorem sh_u : ∀ n, n < 32 → (((nI n).toUInt32 &&& Int32.toUInt32 31).toBitVec % 32).toNat = n := by decide +kernel
theorem ishr_eq {x k : Int} (hx : InR x) (hk : 0 ≤ k) (hk2 : k < 32) : ishr x k = x / (2 ^ k.toNat : Nat) := by
  obtain ⟨n, rfl⟩ := nnI hk
  unfold ishr
  rw [ofI, pk_shr _ _ n (sh_k n (by omega)), o32 hx, Int.shiftRight_eq_div_pow]
  rfl
theorem iushr_eq {x k : Int} (hx : 0 ≤ x) (hx2 : x < 2147483648) (hk : 0 ≤ k) (hk2 : k < 32) : iushr x k = x / (2 ^ k.toNat : Nat) := by
  obtain ⟨n, rfl⟩ := nnI hk
  obtain ⟨a, rfl⟩ := nnI hx
  unfold iushr
  rw [ofI, ofI, pk_ushrN (by omega) _ n (sh_u n (by omega)), nI_toInt (by have := Nat.div_le_self a (2 ^ n); omega)]
  rfl
theorem ishl_eq {x k : Int} (hx : 0 ≤ x) (hk : 0 ≤ k) (hk2 : k < 32) (h : x * (2 ^ k.toNat : Nat) < 2147483648) : ishl x k = x * (2 ^ k.toNat : Nat) := by
  obtain ⟨n, rfl⟩ := nnI hk
  obtain ⟨a, rfl⟩ := nnI hx
  have h' : a * 2 ^ n < 2147483648 := by
    have : ((a * 2 ^ n : Nat) : Int) < 2147483648 := by rw [Int.natCast_mul]; exact h
    omega
  unfold ishl
  rw [ofI, ofI, pk_shlN _ n (sh_k n (by omega)) (by omega), nI_toInt (by omega), Int.natCast_mul]
  rfl
theorem tn_toInt (x : Int32) : (x.toBitVec.toNat : Int) = x.toInt % 4294967296 := by
  show (x.toBitVec.toNat : Int) = x.toBitVec.toInt % 4294967296
  rw [BitVec.toInt_eq_toNat_bmod, show (4294967296 : Int) = ((2 ^ 32 : Nat) : Int) from rfl, Int.bmod_emod]
  have := x.toBitVec.isLt
  omega
theorem iand_mask {x : Int} (k : Nat) (hk : k ≤ 30) (hx : InR x) : iand x ((2 ^ k - 1 : Nat) : Int) = x % ((2 ^ k : Nat) : Int) := by
  unfold iand
  have hlt : 2 ^ k ≤ 2 ^ 30 := Nat.pow_le_pow_right (by omega) hk
  have hm : (nI (2 ^ k - 1)).toBitVec.toNat = 2 ^ k - 1 := pk_tn (by omega)
  rw [ofI, pk_and _ k hm]
  have hp : 0 < 2 ^ k := Nat.two_pow_pos k
  have h1 := Nat.mod_lt (Int32.ofInt x).toBitVec.toNat hp
  rw [nI_toInt (by omega), Int.natCast_emod, tn_toInt, o32 hx]
  have hd : ((2 ^ k : Nat) : Int) ∣ 4294967296 := by
    refine ⟨((2 ^ (32 - k) : Nat) : Int), ?_⟩
    rw [← Int.natCast_mul, ← Nat.pow_add, show k + (32 - k) = 32 by omega]
    rfl
  exact Int.emod_emod_of_dvd x hd
theorem iand_63 {x : Int} (hx : InR x) : iand x 63 = x % 64 := iand_mask 6 (by omega) hx
theorem iand_255 {x : Int} (hx : InR x) : iand x 255 = x % 256 := iand_mask 8 (by omega) hx
theorem iand_1 {x : Int} (hx : InR x) : iand x 1 = x % 2 := iand_mask 1 (by omega) hx
theorem iand_one {x : Int} (hx : InR x) : iand x 262143 = x % 262144 := iand_mask 18 (by omega) hx
theorem iand_nat {a b : Nat} (ha : a < 2147483648) (hb : b < 2147483648) : iand (a : Int) (b : Int) = ((a &&& b : Nat) : Int) := by
  unfold iand
  rw [ofI, ofI]
  have h : nI a &&& nI b = nI (a &&& b) := by
    apply Int32.toBitVec_inj.mp
    apply BitVec.eq_of_toNat_eq
    rw [Int32.toBitVec_and, BitVec.toNat_and, pk_tn (by omega), pk_tn (by omega), pk_tn (by have := Nat.and_le_left (n := a) (m := b); omega)]
  rw [h, nI_toInt (by have := Nat.and_le_left (n := a) (m := b); omega)]
theorem ior_nat {a b : Nat} (ha : a < 2147483648) (hb : b < 2147483648) : ior (a : Int) (b : Int) = ((a ||| b : Nat) : Int) := by
  unfold ior
  rw [ofI, ofI]
  have hl : a ||| b < 2 ^ 31 := Nat.or_lt_two_pow (by omega) (by omega)
  have h : nI a ||| nI b = nI (a ||| b) := by
    apply Int32.toBitVec_inj.mp
    apply BitVec.eq_of_toNat_eq
    rw [Int32.toBitVec_or, BitVec.toNat_or, pk_tn (by omega), pk_tn (by omega), pk_tn (by omega)]
  rw [h, nI_toInt hl]
theorem ixor_m1 {x : Int} (hx : InR x) : ixor x (-1) = -x - 1 := by
  unfold ixor
  have h : Int32.ofInt x ^^^ Int32.ofInt (-1) = ~~~(Int32.ofInt x) := by
    apply Int32.toBitVec_inj.mp
    rw [Int32.toBitVec_xor, Int32.toBitVec_not, show (Int32.ofInt (-1)).toBitVec = BitVec.allOnes 32 by decide, BitVec.xor_allOnes]
  rw [h, Int32.toInt_not, o32 hx]
  unfold InR at hx
  exact Int.bmod_eq_of_le (by omega) (by omega)
theorem lcmp_eq {x y : Int} (hx : InL x) (hy : InL y) : lcmp x y = if y < x then 1 else if x = y then 0 else -1 := by
  unfold lcmp lg_cmp
  have h1 : (Int64.ofInt x > Int64.ofInt y) ↔ y < x := by rw [gt_iff_lt, Int64.lt_iff_toInt_lt, o64 hx, o64 hy]
  have h2 : (Int64.ofInt x = Int64.ofInt y) ↔ x = y := by rw [← Int64.toInt_inj, o64 hx, o64 hy]
  by_cases a : y < x
  · rw [if_pos (h1.mpr a), if_pos a]; rfl
  · rw [if_neg (fun h => a (h1.mp h)), if_neg a]
    by_cases b : x = y
    · rw [if_pos (h2.mpr b), if_pos b]; rfl
    · rw [if_neg (fun h => b (h2.mp h)), if_neg b]; rfl
theorem i2b_eq (x : Int) (hx : InR x) : i2b x = Int.bmod x 256 := by
  unfold i2b
  rw [Int8.toInt_toInt32, Int32.toInt_toInt8, o32 hx]

