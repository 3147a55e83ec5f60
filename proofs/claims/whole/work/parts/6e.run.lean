/-! the longest rise: sets of houses as numbers -/
def pcN (m : Nat) : Nat → Nat
  | 0 => 0
  | n + 1 => pcN m n + (if m.testBit n then 1 else 0)
theorem bitc_ : ∀ a, a < 64 → ∀ b, b < 64 → f_J6_bitCount_0f7a4 (nI (64 * a + b)) = some (nI (pcN (64 * a + b) 12)) := by decide +kernel
theorem bitc {m : Nat} (hm : m < 4096) : f_J6_bitCount_0f7a4 (nI m) = some (nI (pcN m 12)) := by
  have h := bitc_ (m / 64) (by omega) (m % 64) (by omega)
  rwa [Nat.div_add_mod m 64] at h
theorem pc_le (m : Nat) : ∀ n, pcN m n ≤ n
  | 0 => Nat.le_refl _
  | n + 1 => by
    have := pc_le m n
    rw [pcN]
    split <;> omega
theorem pc_same {m x : Nat} : ∀ n, (∀ j, j < n → m.testBit j = x.testBit j) → pcN m n = pcN x n
  | 0, _ => rfl
  | n + 1, h => by rw [pcN, pcN, pc_same n (fun j hj => h j (by omega)), h n (by omega)]
theorem pc_add {m x i : Nat} (hm : m.testBit i = true) (hx : x.testBit i = false) (he : ∀ j, j ≠ i → m.testBit j = x.testBit j) : ∀ n, i < n → pcN m n = pcN x n + 1
  | 0, h => absurd h (Nat.not_lt_zero _)
  | n + 1, h => by
    rw [pcN, pcN]
    by_cases q : i = n
    · subst q
      rw [pc_same i (fun j hj => he j (by omega)), hm, hx, if_pos rfl, if_neg (by decide)]
    · rw [pc_add hm hx he n (by omega), he n (fun e => q e.symm)]
      omega
theorem tb_eq {i x : Nat} (hx : x < 2 ^ i) : (2 ^ i + x).testBit i = true := by rw [Nat.testBit_two_pow_add_eq, Nat.testBit_lt_two_pow hx]; rfl
theorem tb_lt {i x j : Nat} (hj : j < i) : (2 ^ i + x).testBit j = x.testBit j := Nat.testBit_two_pow_add_gt hj x
theorem tb_gt {i x j : Nat} (hx : x < 2 ^ i) (hj : i < j) : (2 ^ i + x).testBit j = false := Nat.testBit_lt_two_pow (Nat.lt_of_lt_of_le (show 2 ^ i + x < 2 ^ (i + 1) by rw [Nat.pow_succ]; omega) (Nat.pow_le_pow_right (by decide) hj))
theorem pc_top {i x : Nat} (hx : x < 2 ^ i) (hi : i < 12) : pcN (2 ^ i + x) 12 = pcN x 12 + 1 := by
  refine pc_add (tb_eq hx) (Nat.testBit_lt_two_pow hx) (fun j hj => ?_) 12 hi
  rcases Nat.lt_or_gt_of_ne hj with q | q
  · exact tb_lt q
  · rw [tb_gt hx q, Nat.testBit_lt_two_pow (Nat.lt_of_lt_of_le hx (Nat.pow_le_pow_right (by decide) (by omega)))]
def Rz (N : Nat → Nat) (m : Nat) : Prop := ∀ a b, a < b → m.testBit a = true → m.testBit b = true → N a < N b
theorem rz_zero (N : Nat → Nat) : Rz N 0 := fun a b _ h _ => by rw [Nat.zero_testBit] at h; cases h
theorem rz_top {N : Nat → Nat} {i x : Nat} (hx : x < 2 ^ i) : Rz N (2 ^ i + x) ↔ Rz N x ∧ ∀ a, x.testBit a = true → N a < N i := by
  have low : ∀ a, x.testBit a = true → a < i := by
    intro a ha
    rcases Nat.lt_or_ge a i with q | q
    · exact q
    · rw [Nat.testBit_lt_two_pow (Nat.lt_of_lt_of_le hx (Nat.pow_le_pow_right (by decide) q))] at ha; cases ha
  constructor
  · intro h
    refine ⟨fun a b hab ha hb => ?_, fun a ha => ?_⟩
    · exact h a b hab (by rw [tb_lt (low a ha)]; exact ha) (by rw [tb_lt (low b hb)]; exact hb)
    · exact h a i (low a ha) (by rw [tb_lt (low a ha)]; exact ha) (tb_eq hx)
  · rintro ⟨h1, h2⟩ a b hab ha hb
    rcases Nat.lt_trichotomy b i with q | q | q
    · rw [tb_lt q] at hb
      rw [tb_lt (by omega)] at ha
      exact h1 a b hab ha hb
    · subst q
      rw [tb_lt hab] at ha
      exact h2 a ha
    · rw [tb_gt hx q] at hb; cases hb
theorem rz_two {N : Nat → Nat} {i j y : Nat} (hj : j < i) (hy : y < 2 ^ j) : Rz N (2 ^ i + (2 ^ j + y)) ↔ Rz N (2 ^ j + y) ∧ N j < N i := by
  have hx : 2 ^ j + y < 2 ^ i := Nat.lt_of_lt_of_le (show 2 ^ j + y < 2 ^ (j + 1) by rw [Nat.pow_succ]; omega) (Nat.pow_le_pow_right (by decide) hj)
  rw [rz_top hx]
  constructor
  · rintro ⟨h1, h2⟩
    exact ⟨h1, h2 j (tb_eq hy)⟩
  · rintro ⟨h1, h2⟩
    refine ⟨h1, fun a ha => ?_⟩
    rcases Nat.lt_trichotomy a j with q | q | q
    · exact Nat.lt_trans (h1 a j q ha (tb_eq hy)) h2
    · subst q; exact h2
    · rw [tb_gt hy q] at ha; cases ha
/-- the best with top i, all else below j -/
def EndB (N : Nat → Nat) (i j x : Nat) : Prop := x < 2 ^ j ∧ Rz N (2 ^ i + x) ∧ ∀ y, y < 2 ^ j → Rz N (2 ^ i + y) → pcN y 12 ≤ pcN x 12 ∧ (y < x → pcN y 12 < pcN x 12)
theorem endB_0 (N : Nat → Nat) (i : Nat) : EndB N i 0 0 := by
  refine ⟨by decide, ?_, fun y hy _ => ?_⟩
  · rw [rz_top (Nat.two_pow_pos i)]
    exact ⟨rz_zero N, fun a ha => by rw [Nat.zero_testBit] at ha; cases ha⟩
  · have : y = 0 := by omega
    subst this
    exact ⟨Nat.le_refl _, fun h => absurd h (Nat.lt_irrefl _)⟩
theorem endB_step {N : Nat → Nat} {i j x y : Nat} (hj : j < i) (hi : i < 12) (E : EndB N i j x) (F : EndB N j j y) : EndB N i (j + 1) (if N j < N i ∧ pcN x 12 < pcN y 12 + 1 then 2 ^ j + y else x) := by
  obtain ⟨e1, e2, e3⟩ := E
  obtain ⟨f1, f2, f3⟩ := F
  have hp : 2 ^ (j + 1) = 2 ^ j + 2 ^ j := by rw [Nat.pow_succ]; omega
  have hy : pcN (2 ^ j + y) 12 = pcN y 12 + 1 := pc_top f1 (by omega)
  have cs : ∀ z, z < 2 ^ (j + 1) → Rz N (2 ^ i + z) → (z < 2 ^ j) ∨ (∃ w, w < 2 ^ j ∧ z = 2 ^ j + w ∧ Rz N (2 ^ j + w) ∧ N j < N i) := by
    intro z hz hr
    rcases Nat.lt_or_ge z (2 ^ j) with q | q
    · exact Or.inl q
    · obtain ⟨w, rfl⟩ : ∃ w, z = 2 ^ j + w := ⟨z - 2 ^ j, by omega⟩
      rw [rz_two hj (by omega)] at hr
      exact Or.inr ⟨w, by omega, rfl, hr.1, hr.2⟩
  by_cases c : N j < N i ∧ pcN x 12 < pcN y 12 + 1
  · rw [if_pos c]
    refine ⟨by omega, (rz_two hj f1).mpr ⟨f2, c.1⟩, fun z hz hr => ?_⟩
    rcases cs z hz hr with q | ⟨w, q1, rfl, q2, q3⟩
    · have := (e3 z q hr).1
      exact ⟨by omega, fun _ => by omega⟩
    · obtain ⟨g1, g2⟩ := f3 w q1 q2
      rw [pc_top q1 (by omega), hy]
      exact ⟨by omega, fun h => by have := g2 (by omega); omega⟩
  · rw [if_neg c]
    refine ⟨by omega, e2, fun z hz hr => ?_⟩
    rcases cs z hz hr with q | ⟨w, q1, rfl, q2, q3⟩
    · exact e3 z q hr
    · obtain ⟨g1, g2⟩ := f3 w q1 q2
      have h2 : ¬ pcN x 12 < pcN y 12 + 1 := fun h => c ⟨q3, h⟩
      rw [pc_top q1 (by omega)]
      exact ⟨by omega, fun h => by omega⟩
def IsB (N : Nat → Nat) (F : Nat) : Prop := F < 4096 ∧ Rz N F ∧ (∀ m, m < 4096 → Rz N m → pcN m 12 ≤ pcN F 12) ∧ ∀ m, m < F → Rz N m → pcN m 12 < pcN F 12
theorem IsB.uniq {N : Nat → Nat} {F G : Nat} (hF : IsB N F) (hG : IsB N G) : F = G := by
  obtain ⟨f1, f2, f3, f4⟩ := hF
  obtain ⟨g1, g2, g3, g4⟩ := hG
  have h1 := f3 G g1 g2
  have h2 := g3 F f1 f2
  rcases Nat.lt_trichotomy F G with q | q | q
  · have := g4 F q f2; omega
  · exact q
  · have := f4 G q g2; omega
theorem top_of {m : Nat} (h0 : m ≠ 0) (hm : m < 4096) : ∃ i x, i < 12 ∧ x < 2 ^ i ∧ m = 2 ^ i + x := by
  have h1 := Nat.log2_self_le h0
  have h2 : m < 2 ^ (m.log2 + 1) := Nat.lt_log2_self
  have h3 : m.log2 < 12 := (Nat.log2_lt h0).mpr hm
  rw [Nat.pow_succ] at h2
  exact ⟨m.log2, m - 2 ^ m.log2, h3, by omega, by omega⟩
theorem isB_of {N : Nat → Nat} {X : Nat → Nat} {b : Nat} (hb : b < 12) (hX : ∀ i, i < 12 → EndB N i i (X i)) (hm : ∀ i, i < 12 → pcN (X i) 12 ≤ pcN (X b) 12 ∧ (i < b → pcN (X i) 12 < pcN (X b) 12)) : IsB N (2 ^ b + X b) := by
  have hlt : ∀ i, i < 12 → 2 ^ i + X i < 4096 := fun i hi => Nat.lt_of_lt_of_le (show 2 ^ i + X i < 2 ^ (i + 1) by have := (hX i hi).1; rw [Nat.pow_succ]; omega) (Nat.pow_le_pow_right (by decide) hi)
  refine ⟨hlt b hb, (hX b hb).2.1, fun m h1 h2 => ?_, fun m h1 h2 => ?_⟩
  · by_cases z : m = 0
    · subst z
      have : pcN 0 12 = 0 := by decide
      omega
    · obtain ⟨i, x, hi, hx, rfl⟩ := top_of z h1
      have g := ((hX i hi).2.2 x hx h2).1
      have g2 := (hm i hi).1
      rw [pc_top hx hi, pc_top (hX b hb).1 hb]
      omega
  · rw [pc_top (hX b hb).1 hb]
    by_cases z : m = 0
    · subst z
      have : pcN 0 12 = 0 := by decide
      omega
    · obtain ⟨i, x, hi, hx, rfl⟩ := top_of z (Nat.lt_trans h1 (hlt b hb))
      have g := (hX i hi).2.2 x hx h2
      rw [pc_top hx hi]
      have hib : i ≤ b := by
        rcases Nat.lt_or_ge b i with q | q
        · have := (hX b hb).1
          have h3 : 2 ^ (b + 1) ≤ 2 ^ i := Nat.pow_le_pow_right (by decide) q
          rw [Nat.pow_succ] at h3
          omega
        · exact q
      by_cases e : i = b
      · subst e
        have := g.2 (by omega)
        omega
      · have := (hm i hi).2 (by omega)
        omega
