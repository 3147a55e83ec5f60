/-- the bits of a set of wrongs, as a number -/
def msk (b : Nat → Bool) : Nat → Nat
  | 0 => 0
  | n + 1 => msk b n ||| (if b n then 2 ^ n else 0)
def bI (b : Bool) : Nat := if b then 1 else 0
def upN {α : Type} (f : Nat → α) (k : Nat) (v : α) : Nat → α := fun i => if i = k then v else f i
theorem msk_bit (b : Nat → Bool) : ∀ n i, (msk b n).testBit i = (decide (i < n) && b i)
  | 0, i => by simp [msk]
  | n + 1, i => by
    have h0 := msk_bit b n i
    show (msk b n ||| (if b n then 2 ^ n else 0)).testBit i = _
    rw [Nat.testBit_or, h0]
    by_cases q : b n = true
    · rw [if_pos q, Nat.testBit_two_pow]
      by_cases e : n = i
      · subst e; simp [q]
      · simp [e, show (i < n + 1) = (i < n) from propext ⟨fun _ => by omega, fun _ => by omega⟩]
    · rw [if_neg q, Nat.zero_testBit, Bool.or_false]
      by_cases e : n = i
      · subst e; simp [q]
      · simp [show (i < n + 1) = (i < n) from propext ⟨fun _ => by omega, fun _ => by omega⟩]
theorem msk_lt (b : Nat → Bool) (n : Nat) : msk b n < 2 ^ n := Nat.lt_pow_two_of_testBit _ fun i hi => by rw [msk_bit]; simp [show ¬ i < n by omega]
theorem msk_lt12 {b : Nat → Bool} {n : Nat} (h : n ≤ 12) : msk b n < 4096 := Nat.lt_of_lt_of_le (msk_lt b n) (Nat.pow_le_pow_right (by decide) h)
theorem msk_set {b : Nat → Bool} {n i : Nat} (h : i < n) : msk b n ||| 2 ^ i = msk (upN b i true) n := Nat.eq_of_testBit_eq fun j => by
  rw [Nat.testBit_or, msk_bit, msk_bit, Nat.testBit_two_pow]
  unfold upN
  by_cases e : j = i
  · subst e; simp [h]
  · simp [e, Ne.symm e]
theorem msk_clr {b : Nat → Bool} {n i : Nat} (h : i < n) (hb : b i = true) : msk b n ^^^ 2 ^ i = msk (upN b i false) n := Nat.eq_of_testBit_eq fun j => by
  rw [Nat.testBit_xor, msk_bit, msk_bit, Nat.testBit_two_pow]
  unfold upN
  by_cases e : j = i
  · subst e; simp [h, hb]
  · simp [e, Ne.symm e]
theorem msk_same {b c : Nat → Bool} {n : Nat} (h : ∀ i, i < n → b i = c i) : msk b n = msk c n := Nat.eq_of_testBit_eq fun j => by
  rw [msk_bit, msk_bit]
  by_cases e : j < n
  · rw [h j e]
  · simp [e]
theorem bit_rd_ : ∀ a, a < 64 → ∀ b, b < 64 → ∀ i, i < 12 → ((nI (64 * a + b) >>> (nI i &&& 31)) &&& nI 1) = nI (bI (((64 * a + b)).testBit i)) := by decide +kernel
theorem bit_rd {m i : Nat} (hm : m < 4096) (hi : i < 12) : ((nI m >>> (nI i &&& 31)) &&& nI 1) = nI (bI ((m).testBit i)) := by
  have h := bit_rd_ (m / 64) (by omega) (m % 64) (by omega) i hi
  rwa [Nat.div_add_mod m 64] at h
theorem bit_or_ : ∀ a, a < 64 → ∀ b, b < 64 → ∀ i, i < 12 → nI (64 * a + b) ||| (nI 1 <<< (nI i &&& 31)) = nI ((64 * a + b) ||| 2 ^ i) := by decide +kernel
theorem bit_or {m i : Nat} (hm : m < 4096) (hi : i < 12) : nI m ||| (nI 1 <<< (nI i &&& 31)) = nI (m ||| 2 ^ i) := by
  have h := bit_or_ (m / 64) (by omega) (m % 64) (by omega) i hi
  rwa [Nat.div_add_mod m 64] at h
theorem bit_clr_ : ∀ a, a < 64 → ∀ b, b < 64 → ∀ i, i < 12 → nI (64 * a + b) &&& ((nI 1 <<< (nI i &&& 31)) ^^^ (-1)) = nI (if ((64 * a + b)).testBit i then (64 * a + b) ^^^ 2 ^ i else (64 * a + b)) := by decide +kernel
theorem bit_clr {m i : Nat} (hm : m < 4096) (hi : i < 12) : nI m &&& ((nI 1 <<< (nI i &&& 31)) ^^^ (-1)) = nI (if (m).testBit i then m ^^^ 2 ^ i else m) := by
  have h := bit_clr_ (m / 64) (by omega) (m % 64) (by omega) i hi
  rwa [Nat.div_add_mod m 64] at h
theorem bit_one : ∀ i, i < 13 → nI 1 <<< (nI i &&& 31) = nI (2 ^ i) := by decide +kernel
