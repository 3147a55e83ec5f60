/-! the class -/
theorem lr_x {W : Nat} {s : Sc} {g : Hp} (q : LR g) (so : ScOk W s) (S : ScX W s 13 g) : Ev (f_X7_longestRise g) fun r => ∃ b F, b < 12 ∧ r.1 = nI b ∧ r.2.1 50 b = nI (pcN F 12) ∧ r.2.1 51 b = nI F ∧ IsB (scN s) F ∧ Kp [50, 51] g r.2 := by
  have cell : ∀ (X : Nat → Nat) i, i < 12 → EndB (scN s) i i (X i) → 2 ^ i + X i < 4096 := fun X i hi E => Nat.lt_of_lt_of_le (show 2 ^ i + X i < 2 ^ (i + 1) by have := E.1; rw [Nat.pow_succ]; omega) (Nat.pow_le_pow_right (by decide) hi)
  unfold f_X7_longestRise
  refine ev_call (P := fun u : Int32 × Int32 × Hp => ∃ (b : Nat) (X : Nat → Nat), b < 12 ∧ u.1 = nI b ∧ (∀ i, i < 12 → EndB (scN s) i i (X i) ∧ u.2.2.1 50 i = nI (pcN (X i) 12 + 1) ∧ u.2.2.1 51 i = nI (2 ^ i + X i)) ∧ (∀ i, i < 12 → pcN (X i) 12 ≤ pcN (X b) 12 ∧ (i < b → pcN (X i) 12 < pcN (X b) 12)) ∧ Kp [50, 51] g u.2.2) (ev_for (k := 0) (fun k (u : Int32 × Int32 × Hp) => u.2.1 = nI k ∧ ∃ (b : Nat) (X : Nat → Nat), (b < k ∨ (b = 0 ∧ k = 0)) ∧ u.1 = nI b ∧ (∀ i, i < k → EndB (scN s) i i (X i) ∧ u.2.2.1 50 i = nI (pcN (X i) 12 + 1) ∧ u.2.2.1 51 i = nI (2 ^ i + X i)) ∧ (∀ i, i < k → pcN (X i) 12 ≤ pcN (X b) 12 ∧ (i < b → pcN (X i) 12 < pcN (X b) 12)) ∧ Kp [50, 51] g u.2.2) 12 (fun k u hk hu => ?_) ⟨rfl, 0, fun _ => 0, Or.inr ⟨rfl, rfl⟩, rfl, fun i hi => absurd hi (Nat.not_lt_zero i), fun i hi => absurd hi (Nat.not_lt_zero i), Kp.refl q⟩ (by decide) (by rw [FUe]; decide)) (fun u hu => ?_)
  · obtain ⟨y, y2, g'⟩ := u
    obtain ⟨p1, b, X, p2, p3, p4, p5, p6⟩ := hu
    simp only at p1 p3 p4 p6
    subst p1 p3
    unfold b_X7_longestRise_4
    by_cases z : 12 ≤ k
    · have e : k = 12 := by omega
      rw [if_pos (by rw [nl12]; exact nI_le z (by omega))]
      rw [e] at p2 p4 p5
      refine ev_some ⟨b, X, by omega, rfl, p4, p5, p6⟩
    · rw [if_neg (by rw [nl12, nI_leI (by decide) (by omega)]; exact z)]
      simp only
      rw [wr_50 (by omega)]
      simp only [Option.bind_some]
      rw [wr_51 (by omega)]
      simp only [Option.bind_some]
      have hk12 : k < 12 := by omega
      refine ev_call (P := fun v : Int32 × Hp => ∃ x, EndB (scN s) k k x ∧ v.2.1 50 k = nI (pcN x 12 + 1) ∧ v.2.1 51 k = nI (2 ^ k + x) ∧ (∀ i, i < k → v.2.1 50 i = g'.1 50 i ∧ v.2.1 51 i = g'.1 51 i) ∧ Kp [50, 51] g v.2) (ev_for (k := 0) (fun j (v : Int32 × Hp) => v.1 = nI j ∧ ∃ x, EndB (scN s) k j x ∧ v.2.1 50 k = nI (pcN x 12 + 1) ∧ v.2.1 51 k = nI (2 ^ k + x) ∧ (∀ i, i < k → v.2.1 50 i = g'.1 50 i ∧ v.2.1 51 i = g'.1 51 i) ∧ Kp [50, 51] g v.2) k (fun j v hj hv => ?_) ⟨rfl, 0, endB_0 _ _, ?_, ?_, fun i hi => ?_, (p6.st (by decide)).st (by decide)⟩ (Nat.zero_le _) (by rw [FUe]; omega)) (fun v hv => ?_)
      · obtain ⟨w, g2⟩ := v
        obtain ⟨v1, x, v2, v3, v4, v5, v6⟩ := hv
        simp only at v1 v3 v4 v5 v6
        subst v1
        unfold b_X7_longestRise_28
        by_cases z2 : k ≤ j
        · have e : j = k := by omega
          rw [if_pos (nI_le z2 (by omega))]
          rw [e] at v2
          exact ev_some ⟨x, v2, v3, v4, v5, v6⟩
        · have hjk : j < k := by omega
          have S2 : ScX W s 13 g2 := S.kp v6 (by decide) (by decide) (by decide)
          have n1 := so.1 j (by omega)
          have n2 := so.1 k hk12
          obtain ⟨ej, c50, c51⟩ := p4 j hjk
          have hst := endB_step hjk hk12 v2 ej
          have pj := pc_le (X j) 12
          have px := pc_le x 12
          rw [if_neg (by rw [nI_leI (by omega) (by omega)]; exact z2)]
          simp only
          rw [rd_14 (by omega), rd_14 hk12, S2.n13 (by omega), S2.n13 hk12]
          simp only [Option.bind_some]
          by_cases c1 : scN s k ≤ scN s j
          · rw [if_pos (nI_le c1 (by omega))]
            rw [if_neg (by omega)] at hst
            exact ev_some ⟨hjk, by rw [nl1, nI_add], x, hst, v3, v4, v5, v6⟩
          · rw [if_neg (by rw [nI_leI (by omega) (by omega)]; exact c1), rd_50 (by omega), rd_50 hk12, (v5 j hjk).1, c50, v3]
            simp only [Option.bind_some]
            rw [nl1, nI_add]
            by_cases c2 : pcN (X j) 12 + 1 + 1 ≤ pcN x 12 + 1
            · rw [if_pos (nI_le c2 (by omega))]
              rw [if_neg (by omega)] at hst
              exact ev_some ⟨hjk, by rw [nI_add], x, hst, v3, v4, v5, v6⟩
            · rw [if_neg (by rw [nI_leI (by omega) (by omega)]; exact c2), wr_50 hk12]
              simp only [Option.bind_some]
              rw [rd_51 (by omega), show (stI g2 50 k (nI (pcN (X j) 12 + 1 + 1))).1 51 j = nI (2 ^ j + X j) from by rw [← c51]; exact (v5 j hjk).2]
              simp only [Option.bind_some]
              rw [show nI (2 ^ j + X j) ||| (nI 1 <<< (nI k &&& 31)) = nI ((2 ^ j + X j) ||| 2 ^ k) from bit_or (cell X j (by omega) ej) hk12, wr_51 hk12]
              rw [if_pos (by omega)] at hst
              have hor : (2 ^ j + X j) ||| 2 ^ k = 2 ^ k + (2 ^ j + X j) := by
                have h1 : 2 ^ j + X j < 2 ^ k := Nat.lt_of_lt_of_le (show 2 ^ j + X j < 2 ^ (j + 1) by have := ej.1; rw [Nat.pow_succ]; omega) (Nat.pow_le_pow_right (by decide) hjk)
                have h2 := Nat.two_pow_add_eq_or_of_lt h1 1
                rw [Nat.mul_one] at h2
                rw [h2, Nat.or_comm]
              refine ev_some ⟨hjk, by rw [nI_add], 2 ^ j + X j, hst, ?_, ?_, fun i hi => ?_, (v6.st (by decide)).st (by decide)⟩
              · show (stI (stI g2 50 k _) 51 k _).1 50 k = _
                rw [stI_at, if_neg (by decide), stI_at, if_pos rfl, if_pos rfl, pc_top ej.1 (by omega)]
              · show (stI (stI g2 50 k _) 51 k _).1 51 k = _
                rw [stI_at, if_pos rfl, if_pos rfl, hor]
              · show (stI (stI g2 50 k _) 51 k _).1 50 i = _ ∧ (stI (stI g2 50 k _) 51 k _).1 51 i = _
                rw [stI_at, if_neg (by decide), stI_at, if_pos rfl, if_neg (by omega), stI_at, if_pos rfl, if_neg (by omega)]
                exact v5 i hi
      · show (stI (stI g' 50 k 1) 51 k _).1 50 k = nI (pcN 0 12 + 1)
        rw [stI_at, if_neg (by decide), stI_at, if_pos rfl, if_pos rfl]
        decide
      · show (stI (stI g' 50 k 1) 51 k _).1 51 k = nI (2 ^ k + 0)
        rw [stI_at, if_pos rfl, if_pos rfl, nl1, bit_one k (by omega)]
        rfl
      · show (stI (stI g' 50 k 1) 51 k _).1 50 i = _ ∧ (stI (stI g' 50 k 1) 51 k _).1 51 i = _
        rw [stI_at, if_neg (by decide), stI_at, if_pos rfl, if_neg (by omega), stI_at, if_pos rfl, if_neg (by omega)]
        exact ⟨rfl, rfl⟩
      · obtain ⟨x, w1, w2, w3, w4, w5⟩ := hv
        have px := pc_le x 12
        have hb12 : b < 12 := by omega
        have hnew : ∀ i, i < k + 1 → EndB (scN s) i i (upN X k x i) ∧ v.2.1 50 i = nI (pcN (upN X k x i) 12 + 1) ∧ v.2.1 51 i = nI (2 ^ i + upN X k x i) := by
          intro i hi
          rw [upN_at]
          by_cases e : i = k
          · rw [if_pos e, e]; exact ⟨w1, w2, w3⟩
          · rw [if_neg e]
            obtain ⟨a1, a2, a3⟩ := p4 i (by omega)
            obtain ⟨a4, a5⟩ := w4 i (by omega)
            exact ⟨a1, by rw [a4, a2], by rw [a5, a3]⟩
        rw [rd_50 hk12, rd_50 hb12, w2]
        simp only [Option.bind_some]
        rcases p2 with p2 | ⟨p2, p2'⟩
        · have hbk : v.2.1 50 b = nI (pcN (X b) 12 + 1) := by rw [(w4 b p2).1, (p4 b p2).2.1]
          have pb := pc_le (X b) 12
          rw [hbk]
          by_cases c : pcN x 12 + 1 ≤ pcN (X b) 12 + 1
          · rw [if_pos (nI_le c (by omega))]
            refine ev_some ⟨by omega, by rw [nl1, nI_add], b, upN X k x, Or.inl (by omega), rfl, hnew, fun i hi => ?_, w5⟩
            rw [upN_at, upN_at, if_neg (show ¬ b = k by omega)]
            by_cases e : i = k
            · rw [if_pos e]; exact ⟨by omega, fun h => by omega⟩
            · rw [if_neg e]; exact p5 i (by omega)
          · rw [if_neg (by rw [nI_leI (by omega) (by omega)]; exact c)]
            refine ev_some ⟨by omega, by rw [nl1, nI_add], k, upN X k x, Or.inl (by omega), rfl, hnew, fun i hi => ?_, w5⟩
            rw [upN_at, upN_at, if_pos rfl]
            by_cases e : i = k
            · rw [if_pos e]; exact ⟨by omega, fun h => by omega⟩
            · rw [if_neg e]
              have := (p5 i (by omega)).1
              exact ⟨by omega, fun _ => by omega⟩
        · have hb : b = k := by omega
          rw [hb, w2, if_pos (nI_le (Nat.le_refl _) (by omega))]
          refine ev_some ⟨by omega, by rw [nl1, nI_add], k, upN X k x, Or.inl (by omega), rfl, hnew, fun i hi => ?_, w5⟩
          have e : i = k := by omega
          rw [e]
          exact ⟨Nat.le_refl _, fun h => absurd h (Nat.lt_irrefl _)⟩
  · obtain ⟨b, X, u1, u2, u3, u4, u5⟩ := hu
    obtain ⟨e1, e2, e3⟩ := u3 b u1
    refine ev_some ⟨b, 2 ^ b + X b, u1, u2, ?_, e3, isB_of u1 (fun i hi => (u3 i hi).1) u4, u5⟩
    show u.2.2.1 50 b = _
    rw [e2, pc_top e1.1 u1]
/-! the reference -/
theorem rises_m {W : Nat} {s : Sc} {h : Hp} (so : ScOk W s) (S : ScM W s h) {m : Nat} (hm : m < 4096) : Ev (f_X8_rises (nI m) h) fun r => (r = 1 ∧ Rz (scN s) m) ∨ (r = 0 ∧ ¬ Rz (scN s) m) := by
  have bd : ∀ i, (nI m >>> (nI i &&& 31)) &&& 1 = (nI m >>> (nI i &&& 31)) &&& nI 1 := fun _ => rfl
  unfold f_X8_rises
  refine ev_call (P := fun o : (Int32 × Int32) ⊕ Int32 => Sum.elim (fun _ => Rz (scN s) m) (fun r => r = 0 ∧ ¬ Rz (scN s) m) o) (ev_for (k := 0) (fun k (u : Int32 × Int32) => u.2 = nI k ∧ (∀ a b, a < b → b < k → m.testBit a = true → m.testBit b = true → scN s a < scN s b) ∧ ((u.1 = -1 ∧ ∀ i, i < k → m.testBit i = false) ∨ (∃ i, i < k ∧ m.testBit i = true ∧ u.1 = nI (scN s i) ∧ ∀ j, i < j → j < k → m.testBit j = false))) 12 (fun k u hk hu => ?_) ⟨rfl, fun a b _ h _ _ => absurd h (Nat.not_lt_zero b), Or.inl ⟨rfl, fun i hi => absurd hi (Nat.not_lt_zero i)⟩⟩ (by decide) (by rw [FUe]; decide)) (fun o ho => ?_)
  · obtain ⟨y, y2⟩ := u
    obtain ⟨p1, p2, p3⟩ := hu
    simp only at p1 p3
    subst p1
    unfold b_X8_rises_4
    by_cases z : 12 ≤ k
    · rw [if_pos (by rw [nl12]; exact nI_le z (by omega))]
      refine ev_some (fun a b hab ha hb => p2 a b hab ?_ ha hb)
      rcases Nat.lt_or_ge b k with q | q
      · exact q
      · rw [Nat.testBit_lt_two_pow (Nat.lt_of_lt_of_le hm (Nat.pow_le_pow_right (show 1 ≤ 2 by decide) (show 12 ≤ b by omega)))] at hb; cases hb
    · rw [if_neg (by rw [nl12, nI_leI (by decide) (by omega)]; exact z)]
      simp only
      rw [bd, bit_rd hm (by omega)]
      have n1 := so.1 k (by omega)
      cases e : m.testBit k with
      | false =>
        rw [if_pos (by decide)]
        refine ev_some ⟨by omega, by rw [nl1, nI_add], fun a b hab hb ha hb' => ?_, ?_⟩
        · by_cases eb : b = k
          · rw [eb, e] at hb'; cases hb'
          · exact p2 a b hab (by omega) ha hb'
        · rcases p3 with ⟨q1, q2⟩ | ⟨i, q1, q2, q3, q4⟩
          · refine Or.inl ⟨q1, fun i hi => ?_⟩
            by_cases ei : i = k
            · rw [ei]; exact e
            · exact q2 i (by omega)
          · refine Or.inr ⟨i, by omega, q2, q3, fun j h1 h2 => ?_⟩
            by_cases ej : j = k
            · rw [ej]; exact e
            · exact q4 j h1 (by omega)
      | true =>
        rw [if_neg (by decide), rd_54 (by omega), S.1 k (by omega)]
        simp only [Option.bind_some]
        have good : (∀ a, a < k → m.testBit a = true → scN s a < scN s k) → Sum.elim (fun t : Int32 × Int32 => k < 12 ∧ t.2 = nI (k + 1) ∧ (∀ a b, a < b → b < k + 1 → m.testBit a = true → m.testBit b = true → scN s a < scN s b) ∧ ((t.1 = -1 ∧ ∀ i, i < k + 1 → m.testBit i = false) ∨ (∃ i, i < k + 1 ∧ m.testBit i = true ∧ t.1 = nI (scN s i) ∧ ∀ j, i < j → j < k + 1 → m.testBit j = false))) (fun o : (Int32 × Int32) ⊕ Int32 => Sum.elim (fun _ => Rz (scN s) m) (fun r => r = 0 ∧ ¬ Rz (scN s) m) o) (Sum.inl (nI (scN s k), nI k + 1)) := by
          intro hg
          refine ⟨by omega, by rw [nl1, nI_add], fun a b hab hb ha hb' => ?_, Or.inr ⟨k, by omega, e, rfl, fun j h1 h2 => by omega⟩⟩
          by_cases eb : b = k
          · rw [eb]; exact hg a (by omega) ha
          · exact p2 a b hab (by omega) ha hb'
        rcases p3 with ⟨q1, q2⟩ | ⟨i, q1, q2, q3, q4⟩
        · rw [q1, if_pos (nI_gtm (by omega))]
          refine ev_some (good (fun a ha hb => ?_))
          rw [q2 a ha] at hb; cases hb
        · have n2 := so.1 i (by omega)
          rw [q3]
          by_cases c : scN s i < scN s k
          · rw [if_pos (nI_lt c (by omega))]
            refine ev_some (good (fun a ha hb => ?_))
            rcases Nat.lt_trichotomy a i with t | t | t
            · exact Nat.lt_trans (p2 a i t q1 hb q2) c
            · rw [t]; exact c
            · rw [q4 a t ha] at hb; cases hb
          · rw [if_neg (nI_nlt (by omega) (by omega))]
            exact ev_some ⟨rfl, fun hr => c (hr i k q1 q2 e)⟩
  · cases o with
    | inl a => exact ev_some (Or.inl ⟨rfl, ho⟩)
    | inr a => exact ev_some (Or.inr ho)
theorem nl4096 : (4096 : Int32) = nI 4096 := rfl
theorem runs_m {W : Nat} {s : Sc} {h : Hp} {a1 : Int32} (so : ScOk W s) (S : ScM W s h) : Ev (iter (b_X8_run_15 a1 h) FU (0, 1)) fun u => ∃ F, u.1 = nI F ∧ IsB (scN s) F := by
  refine ev_for (k := 1) (fun c (u : Int32 × Int32) => u.2 = nI c ∧ 1 ≤ c ∧ ∃ F, u.1 = nI F ∧ F < c ∧ Rz (scN s) F ∧ (∀ m, m < c → Rz (scN s) m → pcN m 12 ≤ pcN F 12) ∧ ∀ m, m < F → Rz (scN s) m → pcN m 12 < pcN F 12) 4096 (fun c u hc hu => ?_) ⟨rfl, Nat.le_refl _, 0, rfl, by decide, rz_zero _, fun m hm _ => ?_, fun m hm => absurd hm (Nat.not_lt_zero m)⟩ (by decide) (by rw [FUe]; decide)
  · obtain ⟨y, y2⟩ := u
    obtain ⟨p1, p2, F, p3, p4, p5, p6, p7⟩ := hu
    simp only at p1 p3
    subst p1 p3
    unfold b_X8_run_15
    by_cases z : 4096 ≤ c
    · have e : c = 4096 := by omega
      rw [if_pos (by rw [nl4096]; exact nI_le z (by omega))]
      rw [e] at p4 p6
      exact ev_some ⟨F, rfl, p4, p5, p6, p7⟩
    · rw [if_neg (by rw [nl4096, nI_leI (by decide) (by omega)]; exact z)]
      simp only
      rw [bitc (show c < 4096 by omega), bitc (show F < 4096 by omega)]
      simp only [Option.bind_some]
      have l1 := pc_le c 12
      have l2 := pc_le F 12
      by_cases le : pcN c 12 ≤ pcN F 12
      · rw [if_pos (nI_le le (by omega))]
        refine ev_some ⟨by omega, by rw [nl1, nI_add], by omega, F, rfl, by omega, p5, fun m hm hr => ?_, p7⟩
        by_cases e : m = c
        · rw [e]; exact le
        · exact p6 m (by omega) hr
      · rw [if_neg (by rw [nI_leI (by omega) (by omega)]; exact le)]
        refine ev_call (rises_m so S (show c < 4096 by omega)) (fun t ht => ?_)
        rcases ht with ⟨t1, t2⟩ | ⟨t1, t2⟩
        · rw [if_neg (by rw [t1]; decide)]
          refine ev_some ⟨by omega, by rw [nl1, nI_add], by omega, c, rfl, by omega, t2, fun m hm hr => ?_, fun m hm hr => ?_⟩
          · by_cases e : m = c
            · rw [e]; exact Nat.le_refl _
            · have := p6 m (by omega) hr; omega
          · have := p6 m (by omega) hr; omega
        · rw [if_pos (by rw [t1])]
          refine ev_some ⟨by omega, by rw [nl1, nI_add], by omega, F, rfl, by omega, p5, fun m hm hr => ?_, p7⟩
          by_cases e : m = c
          · rw [e] at hr; exact absurd hr t2
          · exact p6 m (by omega) hr
  · have : m = 0 := by omega
    subst this
    exact Nat.le_refl _
theorem a_run (v : Int32) (h : Hp) (R : Rel h) : Ev (f_X7_run v h) fun r => Ev (f_X8_run v r.2) fun t => r.1 = t ∧ Rel r.2 := by
  have R0 := R
  obtain ⟨f, s, φ, b, R0A⟩ := R
  have n10 : ¬ (1 : Int32) = 0 := by decide
  rcases rng_c 0 1 (by decide) (by decide) v with ⟨i, rfl, i1, i2, i3, i4, i5⟩ | ⟨i3, i5⟩
  rotate_left
  · have e8 : f_X8_run v h = some (-1) := by
      unfold f_X8_run; rw [show f_X8_within v 0 1 = some 0 from i5]; rfl
    have e7 : f_X7_run v h = some (-1, h) := by
      unfold f_X7_run
      rcases i3 with i3 | i3
      · rw [if_pos (show v < 0 from i3)]
      · by_cases c : v < 0
        · rw [if_pos c]
        · rw [if_neg c, if_neg (show ¬ v ≤ 1 from i3)]
    exact ⟨_, e7, _, e8, rfl, R0⟩
  unfold f_X7_run
  rw [if_neg (show ¬ nI i < 0 from i3), if_pos (show nI i ≤ 1 from i4)]
  refine ev_call (lr_x R0A.1.1 R0A.1.2.2.2 R0A.2.1.2.2.1) (fun r hr => ?_)
  obtain ⟨c, F, r1, r2, r3, r4, r5, r6⟩ := hr
  have RA : RelA f s φ b r.2 := R0A.scr (r6.mono (by decide)) (R0A.thk.eq (r6.i 17 (by decide)))
  have key : ∀ x : Int32, x = (if i = 0 then nI (pcN F 12) else nI F) → Ev (f_X8_run (nI i) r.2) fun t => x = t ∧ Rel r.2 := by
    intro x hx
    unfold f_X8_run
    rw [show f_X8_within (nI i) 0 1 = some 1 from i5]
    simp only [Option.bind_some, if_neg n10]
    refine ev_call (runs_m RA.1.2.2.2 RA.2.1.2.2.2) (fun u hu => ?_)
    obtain ⟨G, u1, u2⟩ := hu
    have e := r5.uniq u2
    subst e
    rw [u1]
    by_cases z : i = 0
    · rw [if_pos z] at hx
      rw [if_neg (by rw [nl1, nI_eq (by omega) (by decide)]; omega), bitc r5.1]
      exact ev_some ⟨hx, RA.n⟩
    · rw [if_neg z] at hx
      have z1 : i = 1 := by omega
      rw [if_pos (by rw [z1]; rfl)]
      exact ev_some ⟨hx, RA.n⟩
  rw [r2]
  by_cases z : i = 0
  · rw [if_pos (by rw [z]; rfl), rd_50 r1, r3]
    exact ⟨_, rfl, key _ (by rw [if_pos z])⟩
  · rw [if_neg (by rw [nl0, nI_eq (by omega) (by decide)]; exact z), rd_51 r1, r4]
    exact ⟨_, rfl, key _ (by rw [if_neg z])⟩
