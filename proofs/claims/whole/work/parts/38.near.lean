theorem abI_n {x y : Nat} (hx : x ≤ 999) (hy : y ≤ 999) : abI (nI x - nI y) = nI (if x ≤ y then y - x else x - y) := by
  have lo : ∀ z : Nat, z < 1000 → abI (nI z) = nI z ∧ abI (0 - nI z) = nI z := by
    intro z hz
    refine ⟨?_, ?_⟩
    · unfold abI; rw [if_pos (nI_pos' (by omega))]
    · unfold abI
      rcases Nat.eq_zero_or_pos z with e | e
      · subst e; decide
      · have h1 : ¬ (0 : Int32) ≤ 0 - nI z := by
          rw [Int32.le_iff_toInt_le, Int32.toInt_sub, nI_toInt (by omega), show (0 : Int32).toInt = 0 by decide, Int.bmod_eq_of_le] <;> omega
        rw [if_neg h1]
        apply Int32.toInt_inj.mp
        rw [Int32.toInt_sub, Int32.toInt_sub, nI_toInt (by omega), show (0 : Int32).toInt = 0 by decide, Int.bmod_eq_of_le (n := 0 - (z : Int)), Int.bmod_eq_of_le] <;> omega
  by_cases q : x ≤ y
  · rw [if_pos q]
    have h1 : nI x - nI y = 0 - nI (y - x) := by
      apply Int32.toInt_inj.mp
      rw [Int32.toInt_sub, Int32.toInt_sub, nI_toInt (by omega), nI_toInt (by omega), nI_toInt (by omega), show (0 : Int32).toInt = 0 by decide]
      congr 1
      omega
    rw [h1]
    exact (lo _ (by omega)).2
  · rw [if_neg q, nI_sub (by omega)]
    exact (lo _ (by omega)).1
/-- how far a house's number lies from a -/
def dst (s : Sc) (a i : Nat) : Nat := if scN s i ≤ a then a - scN s i else scN s i - a
/-- the free house that lies nearest, among the first n; 12: none -/
def nrst (s : Sc) (a m : Nat) : Nat → Nat
  | 0 => 12
  | n + 1 => if m.testBit n then nrst s a m n else if nrst s a m n = 12 then n else if dst s a (nrst s a m n) ≤ dst s a n then nrst s a m n else n
theorem nrst_lt (s : Sc) (a m : Nat) : ∀ n, nrst s a m n = 12 ∨ (nrst s a m n < n)
  | 0 => Or.inl rfl
  | n + 1 => by
    have h1 := nrst_lt s a m n
    unfold nrst
    split
    · omega
    · split
      · omega
      · split <;> omega
theorem nrst_some (s : Sc) (a m : Nat) : ∀ n, n ≤ 12 → (∃ i, i < n ∧ m.testBit i = false) → nrst s a m n < n
  | 0, _, ⟨i, h, _⟩ => absurd h (Nat.not_lt_zero i)
  | n + 1, hn, ⟨i, h, hb⟩ => by
    have h1 := nrst_lt s a m n
    unfold nrst
    by_cases q : m.testBit n = true
    · rw [if_pos q]
      have hi : i ≠ n := fun e => by rw [e, q] at hb; cases hb
      have := nrst_some s a m n (by omega) ⟨i, by omega, hb⟩
      omega
    · rw [if_neg q]
      split
      · omega
      · split <;> omega
theorem near_x {w : Nat} {s : Sc} {h : Hp} (so : ScOk w s) (S : ScX w s 13 h) {a m : Nat} (ha : a ≤ 999) (hm : m < 4096) : Ev (f_X7_nearestFree (nI a) (nI m) h) fun r => r = nI (if nrst s a m 12 = 12 then 0 else nrst s a m 12) := by
  unfold f_X7_nearestFree
  refine ev_call (P := fun r => r.1 = nI (if nrst s a m 12 = 12 then 0 else nrst s a m 12)) (ev_for (k := 0) (fun k s' => s'.2.2 = nI k ∧ s'.1 = nI (if nrst s a m k = 12 then 0 else nrst s a m k) ∧ s'.2.1 = nI (if nrst s a m k = 12 then 1000 else dst s a (nrst s a m k))) 12 (fun k s' hk hP => ?_) ⟨rfl, rfl, rfl⟩ (by decide) (by rw [FUe]; decide)) (fun v hv => ev_some hv)
  obtain ⟨x, y, z⟩ := s'
  obtain ⟨e1, e2, e3⟩ := hP
  simp only at e1 e2 e3
  subst e1 e2 e3
  unfold b_X7_nearestFree_10
  by_cases q : 12 ≤ k
  · rw [if_pos (by rw [nl12]; exact nI_le q (by omega))]
    have : k = 12 := by omega
    subst this
    exact ev_some rfl
  · have hk : k < 12 := by omega
    have hx := so.1 k hk
    rw [if_neg (by rw [nl12, nI_leI (by decide) (by omega)]; exact q), rd_14 hk]
    simp only [Option.bind_some]
    rw [S.n13 hk, abI_n hx ha, show ((nI m >>> (nI k &&& 31)) &&& (1 : Int32)) = nI (bI (m.testBit k)) from bit_rd hm hk]
    have hd : (if scN s k ≤ a then a - scN s k else scN s k - a) = dst s a k := rfl
    have hdl : ∀ i, i < 12 → dst s a i ≤ 999 := fun i hi => by
      have := so.1 i hi
      unfold dst
      split <;> omega
    have hd0 := hdl k hk
    rw [hd]
    have hl := nrst_lt s a m k
    have hne : k ≠ 12 := by omega
    cases hb : m.testBit k with
    | true =>
      rw [if_neg (show ¬ nI (bI true) = 0 by decide)]
      refine ev_some ⟨hk, by rw [nI_1], ?_, ?_⟩
      · show _ = nI (if nrst s a m (k + 1) = 12 then 0 else nrst s a m (k + 1))
        rw [show nrst s a m (k + 1) = nrst s a m k from by rw [nrst, if_pos hb]]
      · show _ = nI (if nrst s a m (k + 1) = 12 then 1000 else dst s a (nrst s a m (k + 1)))
        rw [show nrst s a m (k + 1) = nrst s a m k from by rw [nrst, if_pos hb]]
    | false =>
      rw [if_pos (show nI (bI false) = 0 from rfl)]
      by_cases z : nrst s a m k = 12
      · have e : nrst s a m (k + 1) = k := by rw [nrst, if_neg (by rw [hb]; decide), if_pos z]
        rw [if_pos z, if_neg (by rw [nI_leI (by decide) (by omega)]; omega)]
        refine ev_some ⟨hk, by rw [nI_1], ?_, ?_⟩
        · show _ = nI (if nrst s a m (k + 1) = 12 then 0 else nrst s a m (k + 1))
          rw [e, if_neg hne]
        · show _ = nI (if nrst s a m (k + 1) = 12 then 1000 else dst s a (nrst s a m (k + 1)))
          rw [e, if_neg hne]
      · have hd1 := hdl (nrst s a m k) (by omega)
        simp only [if_neg z]
        by_cases z2 : dst s a (nrst s a m k) ≤ dst s a k
        · have e : nrst s a m (k + 1) = nrst s a m k := by rw [nrst, if_neg (by rw [hb]; decide), if_neg z, if_pos z2]
          rw [if_pos (nI_le z2 (by omega))]
          refine ev_some ⟨hk, by rw [nI_1], ?_, ?_⟩
          · show _ = nI (if nrst s a m (k + 1) = 12 then 0 else nrst s a m (k + 1))
            rw [e, if_neg z]
          · show _ = nI (if nrst s a m (k + 1) = 12 then 1000 else dst s a (nrst s a m (k + 1)))
            rw [e, if_neg z]
        · have e : nrst s a m (k + 1) = k := by rw [nrst, if_neg (by rw [hb]; decide), if_neg z, if_neg z2]
          rw [if_neg (by rw [nI_leI (by omega) (by omega)]; exact z2)]
          refine ev_some ⟨hk, by rw [nI_1], ?_, ?_⟩
          · show _ = nI (if nrst s a m (k + 1) = 12 then 0 else nrst s a m (k + 1))
            rw [e, if_neg hne]
          · show _ = nI (if nrst s a m (k + 1) = 12 then 1000 else dst s a (nrst s a m (k + 1)))
            rw [e, if_neg hne]
theorem near_m {w : Nat} {s : Sc} {h : Hp} (so : ScOk w s) (S : ScM w s h) {a m : Nat} (ha : a ≤ 999) (hm : m < 4096) : Ev (f_X8_nearestTo (nI a) (nI m) h) fun r => r = (if nrst s a m 12 = 12 then -2 else nI (nrst s a m 12)) := by
  unfold f_X8_nearestTo
  refine ev_call (P := fun r => r.1 = (if nrst s a m 12 = 12 then -2 else nI (nrst s a m 12))) (ev_for (k := 0) (fun k s' => s'.2 = nI k ∧ s'.1 = (if nrst s a m k = 12 then -2 else nI (nrst s a m k))) 12 (fun k s' hk hP => ?_) ⟨rfl, rfl⟩ (by decide) (by rw [FUe]; decide)) (fun v hv => ev_some hv)
  obtain ⟨x, z⟩ := s'
  obtain ⟨e1, e2⟩ := hP
  simp only at e1 e2
  subst e1 e2
  unfold b_X8_nearestTo_6
  by_cases q : 12 ≤ k
  · rw [if_pos (by rw [nl12]; exact nI_le q (by omega))]
    have : k = 12 := by omega
    subst this
    exact ev_some rfl
  · have hk : k < 12 := by omega
    have hx := so.1 k hk
    rw [if_neg (by rw [nl12, nI_leI (by decide) (by omega)]; exact q)]
    rw [show ((nI m >>> (nI k &&& 31)) &&& (1 : Int32)) = nI (bI (m.testBit k)) from bit_rd hm hk]
    have hl := nrst_lt s a m k
    have hne : k ≠ 12 := by omega
    cases hb : m.testBit k with
    | true =>
      rw [if_neg (show ¬ nI (bI true) = 0 by decide)]
      refine ev_some ⟨hk, by rw [nI_1], ?_⟩
      show _ = (if nrst s a m (k + 1) = 12 then -2 else nI (nrst s a m (k + 1)))
      rw [show nrst s a m (k + 1) = nrst s a m k from by rw [nrst, if_pos hb]]
    | false =>
      rw [if_pos (show nI (bI false) = 0 from rfl)]
      by_cases z : nrst s a m k = 12
      · have e : nrst s a m (k + 1) = k := by rw [nrst, if_neg (by rw [hb]; decide), if_pos z]
        rw [if_pos (by rw [if_pos z])]
        refine ev_some ⟨hk, by rw [nI_1], ?_⟩
        show _ = (if nrst s a m (k + 1) = 12 then -2 else nI (nrst s a m (k + 1)))
        rw [e, if_neg hne]
      · have hy := so.1 (nrst s a m k) (by omega)
        simp only [if_neg z]
        rw [if_neg (nI_m2 (by omega)), rd_54 hk, rd_54 (by omega)]
        simp only [Option.bind_some]
        rw [S.1 k hk, S.1 _ (show nrst s a m k < 12 by omega), abI_n hx ha, abI_n hy ha]
        show Ev (if nI (dst s a (nrst s a m k)) ≤ nI (dst s a k) then _ else _) _
        have hd0 : dst s a k ≤ 999 := by unfold dst; split <;> omega
        have hd1 : dst s a (nrst s a m k) ≤ 999 := by unfold dst; split <;> omega
        by_cases z2 : dst s a (nrst s a m k) ≤ dst s a k
        · have e : nrst s a m (k + 1) = nrst s a m k := by rw [nrst, if_neg (by rw [hb]; decide), if_neg z, if_pos z2]
          rw [if_pos (nI_le z2 (by omega))]
          refine ev_some ⟨hk, by rw [nI_1], ?_⟩
          show _ = (if nrst s a m (k + 1) = 12 then -2 else nI (nrst s a m (k + 1)))
          rw [e, if_neg z]
        · have e : nrst s a m (k + 1) = k := by rw [nrst, if_neg (by rw [hb]; decide), if_neg z, if_neg z2]
          rw [if_neg (by rw [nI_leI (by omega) (by omega)]; exact z2)]
          refine ev_some ⟨hk, by rw [nI_1], ?_⟩
          show _ = (if nrst s a m (k + 1) = 12 then -2 else nI (nrst s a m (k + 1)))
          rw [e, if_neg hne]
theorem a_nearest (v : Int32) (h : Hp) (R : Rel h) : Ev (f_X7_nearest v h) fun r => Ev (f_X8_nearest v h) fun t => r = t := by
  obtain ⟨f, s, φ, b, ⟨r1, r2, r3, r4⟩, ⟨r5, r6, r7, r8⟩, _⟩ := R
  have n10 : ¬ (1 : Int32) = 0 := by decide
  unfold f_X7_nearest f_X8_nearest
  rcases i32_split v with ⟨n, hn, rfl⟩ | ha
  · by_cases q : n ≤ 999
    · rw [if_neg (nI_pos hn), if_pos (by rw [nl999]; exact nI_le q (by decide))]
      obtain ⟨r, h1, h2⟩ := near_x r4 r7 q (show 0 < 4096 by decide)
      obtain ⟨t, h3, h4⟩ := near_m r4 r8 q (show 0 < 4096 by decide)
      have hl := nrst_some s n 0 12 (by decide) ⟨0, by decide, by decide⟩
      rw [if_neg (by omega)] at h2 h4
      rw [show f_X7_nearestFree (nI n) 0 h = some r from h1]
      refine ⟨_, rfl, ?_⟩
      rw [nl0, nl999, within_in (Nat.zero_le _) q (by decide)]
      simp only [Option.bind_some]
      rw [if_neg (by decide), h3]
      exact ⟨_, rfl, by rw [h2, h4]⟩
    · rw [if_neg (nI_pos hn), if_neg (by rw [nl999, nI_leI hn (by decide)]; exact q), nl0, nl999, within_out (by omega) hn (by decide) (by decide)]
      exact ⟨_, rfl, _, rfl, rfl⟩
  · rw [if_pos ha, nl0, within_neg ha (by decide)]
    exact ⟨_, rfl, _, rfl, rfl⟩
