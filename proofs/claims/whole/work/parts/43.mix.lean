theorem cpy0 {α : Type} {f g : Nat → α} {n i : Nat} : va_cpy f g 0 0 n i = if i < n then f i else g i := by
  unfold va_cpy
  by_cases q : i < n
  · rw [if_pos (by omega), if_pos q]; congr 1; omega
  · rw [if_neg (by omega), if_neg q]
theorem and_n {a b : Nat} (_ha : a < 2 ^ 31) : nI a &&& nI b = nI (a &&& b) := by
  apply Int32.toBitVec_inj.mp
  show BitVec.ofNat 32 a &&& BitVec.ofNat 32 b = BitVec.ofNat 32 (a &&& b)
  rw [BitVec.ofNat_and]
theorem or_n {a b : Nat} : nI a ||| nI b = nI (a ||| b) := by
  apply Int32.toBitVec_inj.mp
  show BitVec.ofNat 32 a ||| BitVec.ofNat 32 b = BitVec.ofNat 32 (a ||| b)
  rw [BitVec.ofNat_or]
theorem low_n : ∀ n, n < 13 → ((1 : Int32) <<< (nI n &&& 31)) - 1 = nI (2 ^ n - 1) := by decide +kernel
theorem inv_n : ∀ n, n < 13 → nI (2 ^ n - 1) ^^^ (-1) = ((-1 : Int32) - nI (2 ^ n - 1)) := by decide +kernel
theorem hi_n_ : ∀ n, n < 13 → ∀ x, x < 64 → ∀ y, y < 64 → nI (64 * x + y) &&& (nI (2 ^ n - 1) ^^^ (-1)) = nI ((64 * x + y) - (64 * x + y) % 2 ^ n) := by decide +kernel
theorem hi_n {n a : Nat} (hn : n < 13) (ha : a < 4096) : nI a &&& (nI (2 ^ n - 1) ^^^ (-1)) = nI (a - a % 2 ^ n) := by
  have h := hi_n_ n hn (a / 64) (by omega) (a % 64) (by omega)
  rwa [Nat.div_add_mod a 64] at h
theorem sub_mod_bit {a n i : Nat} : (a - a % 2 ^ n).testBit i = (decide (n ≤ i) && a.testBit i) := by
  have h1 : a - a % 2 ^ n = 2 ^ n * (a / 2 ^ n) := by have := Nat.div_add_mod a (2 ^ n); omega
  rw [h1, Nat.testBit_two_pow_mul, Nat.testBit_div_two_pow]
  by_cases q : n ≤ i
  · simp [q, Nat.sub_add_cancel q]
  · simp [q]
/-- forgiven: the first n of b's, the others of c's -/
theorem msk_mix {b c : Nat → Bool} {n w : Nat} (hn : n ≤ w) (hw : w ≤ 12) : ((nI (msk b n) &&& (((1 : Int32) <<< (nI n &&& 31)) - 1)) ||| (nI (msk c w) &&& ((((1 : Int32) <<< (nI n &&& 31)) - 1) ^^^ (-1)))) = nI (msk (fun i => if i < n then b i else c i) w) := by
  have h1 := msk_lt12 (b := b) (n := n) (by omega)
  have h2 := msk_lt12 (b := c) (n := w) hw
  rw [low_n n (by omega), hi_n (by omega) h2, and_n (by omega), or_n]
  congr 1
  refine Nat.eq_of_testBit_eq fun i => ?_
  rw [Nat.testBit_or, Nat.testBit_and, msk_bit, msk_bit, sub_mod_bit, msk_bit, Nat.testBit_two_pow_sub_one]
  by_cases q : i < n
  · simp [q, show i < w by omega, show ¬ n ≤ i by omega]
  · simp [q, show n ≤ i by omega]
