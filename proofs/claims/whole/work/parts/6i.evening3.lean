theorem a_evening (v : Int32) (h : Hp) (R : Rel h) : Ag (f_X7_evening v h) (f_X8_evening v) := by
  have R0 := R
  obtain ⟨f, s, φ, b, R0A⟩ := R
  have n10 : ¬ (1 : Int32) = 0 := by decide
  have hφ := R0A.1.2.1
  have ok := R0A.1.2.2.1
  have h12 := ok.2.1
  rcases rng_c 0 1 (by decide) (by decide) v with ⟨i, rfl, i1, i2, i3, i4, i5⟩ | ⟨i3, i5⟩
  rotate_left
  · refine ag_same R0 (v := -1) ?_ ?_
    · unfold f_X7_evening
      rcases i3 with i3 | i3
      · rw [if_pos (show v < 0 from i3)]
      · by_cases c : v < 0
        · rw [if_pos c]
        · rw [if_neg c, if_neg (show ¬ v ≤ 1 from i3)]
    · unfold f_X8_evening; rw [show f_X8_within v 0 1 = some 0 from i5]; rfl
  unfold Ag f_X7_evening f_X2_clear
  rw [if_neg (show ¬ nI i < 0 from i3), if_pos (show nI i ≤ 1 from i4)]
  simp only [lt, Option.bind_some]
  have q0 := R0A.1.1
  have K0 : Kp [11, 12, 44, 45, 46, 47, 48] h (stI (stI (stI h 44 4 0) 44 5 0) 44 6 0) := (((Kp.refl q0).st (by decide)).st (by decide)).st (by decide)
  refine ev_call (offers_x R0A.rx K0 (by rw [stI_at, if_pos rfl, if_neg (by decide), stI_at, if_pos rfl, if_neg (by decide), stI_at, if_pos rfl, if_pos rfl])) (fun u hu => ?_)
  obtain ⟨n, q, u1, u2, u3, u4, u5⟩ := hu
  have e0 : smW f φ s 0 = 0 := by
    unfold smW
    generalize foW f = m
    induction m with
    | zero => rfl
    | succ m ih => rw [smP, ih, Nat.zero_testBit, if_neg (by decide)]
  have B0 : BestC f φ s 0 u.2 := ⟨by rw [u3, e0, stI_at, if_pos rfl, if_neg (by decide), stI_at, if_pos rfl, if_pos rfl]; rfl, by rw [u4, stI_at, if_pos rfl, if_pos rfl]; rfl, Nat.two_pow_pos _, okP_zero _ _ _⟩
  have bz : ∀ g : Nat → Nat, BitsOf g 0 (foW f) 0 := fun g => ⟨by decide, fun a => ⟨fun h => (by rw [Nat.zero_testBit] at h; cases h), fun ⟨v, _, hv, _⟩ => (by rw [Nat.zero_testBit] at hv; cases hv)⟩⟩
  have C := choose_x hφ ok n 0 20 0 0 0 0 u.2 (Nat.zero_add _) (by have := u1.1; omega) u5.1 u1 B0 (Nat.two_pow_pos _) (okP_zero _ _ _) (fun w hw => (by rw [Nat.zero_testBit] at hw; cases hw)) (bz _) (bz _)
  rw [e0] at C
  obtain ⟨t, t1, F, t2, t3, t4, t5⟩ := C
  have es : f_X2_search u.2 = some t.2 := by
    unfold f_X2_search f_X2_choose
    rw [show fG_GC 20 0 [0, 0, 0, 0, 0] u.2 = some t from t1]
    rfl
  rw [es]
  simp only [Option.bind_some]
  have best : IsE f φ s F := by
    refine ⟨t2.2.2.1, t2.2.2.2, fun m hm ho => ?_⟩
    -- the offers among m
    obtain ⟨x, x1⟩ : ∃ x : Nat, ∀ w, x.testBit w = (m.testBit w && decide (cwN f φ s w ≠ 0) && decide (w < foW f)) := by
      have : ∀ k, ∃ x : Nat, x < 2 ^ k ∧ ∀ w, x.testBit w = (m.testBit w && decide (cwN f φ s w ≠ 0) && decide (w < k)) := by
        intro k
        induction k with
        | zero => exact ⟨0, by decide, fun w => by simp⟩
        | succ k ih =>
          obtain ⟨x, x0, x1⟩ := ih
          by_cases c : (m.testBit k && decide (cwN f φ s k ≠ 0)) = true
          · refine ⟨x ||| 2 ^ k, or_lt (Nat.lt_of_lt_of_le x0 (Nat.pow_le_pow_right (by decide) (Nat.le_succ k))) (Nat.lt_succ_self k), fun w => ?_⟩
            rw [or_tb, x1]
            by_cases e : k = w
            · subst e; rw [c]; simp
            · simp [e, show (w < k + 1) = (w < k) from propext ⟨fun _ => by omega, fun _ => by omega⟩]
          · refine ⟨x, Nat.lt_of_lt_of_le x0 (Nat.pow_le_pow_right (by decide) (Nat.le_succ k)), fun w => ?_⟩
            rw [x1]
            by_cases e : k = w
            · subst e
              rw [Bool.eq_false_iff.mpr c]; simp
            · simp [show (w < k + 1) = (w < k) from propext ⟨fun _ => by omega, fun _ => by omega⟩]
      obtain ⟨x, _, x1⟩ := this (foW f)
      exact ⟨x, x1⟩
    have sub : ∀ w, x.testBit w = true → m.testBit w = true ∧ cwN f φ s w ≠ 0 ∧ w < foW f := fun w hw => by
      rw [x1] at hw
      simp only [Bool.and_eq_true, decide_eq_true_eq] at hw
      exact ⟨hw.1.1, hw.1.2, hw.2⟩
    have hand : x &&& m = x := Nat.eq_of_testBit_eq fun w => by
      rw [Nat.testBit_and]
      cases e : x.testBit w with
      | true => rw [(sub w e).1]; rfl
      | false => rfl
    have hle : x ≤ m := by
      rw [← hand]
      exact Nat.and_le_right
    have hpc : ∀ k, pcN x k ≤ pcN m k := by
      intro k
      induction k with
      | zero => exact Nat.le_refl _
      | succ k ih =>
        rw [pcN, pcN]
        cases e : x.testBit k with
        | true => rw [(sub k e).1, if_pos rfl]; omega
        | false => rw [if_neg (by decide)]; omega
    have hsm : ∀ k, k ≤ foW f → smP f φ s x k = smP f φ s m k := by
      intro k
      induction k with
      | zero => intro _; rfl
      | succ k ih =>
        intro hk
        rw [smP, smP, ih (by omega), x1 k]
        by_cases c : cwN f φ s k = 0
        · simp [c]
        · simp [c, show k < foW f by omega]
    have hox : OkP f s x (foW f) := ⟨fun w hw hb => ho.1 w hw (sub w hb).1, fun a b hab hb h1 h2 => ho.2 a b hab hb (sub a h1).1 (sub b h2).1⟩
    have h1 : LeE f φ s m x := by
      have h2 := hsm (foW f) (Nat.le_refl _)
      have h3 := hpc 12
      unfold LeE smW
      omega
    refine h1.trans (t5 x hox ⟨fun j hj => absurd hj (Nat.not_lt_zero j), fun w hw => ?_⟩)
    obtain ⟨s1, s2, s3⟩ := sub w hw
    exact u2 w s3 (ho.1 w s3 s1) s2
  have KK : Kp [11, 12, 44, 45, 46, 47, 48] h t.2 := u5.trans (t3.2.mono (by decide))
  have RA : RelA f s φ b t.2 := R0A.scr (KK.mono (by decide)) (R0A.thk.eq (KK.i 17 (by decide)))
  have key : ∀ x : Int32, x = (if i = 0 then nI (smW f φ s F) else nI F) → Ev (f_X8_evening (nI i) t.2) fun r => x = r.1 ∧ Rel r.2 := by
    intro x hx
    unfold f_X8_evening
    rw [show f_X8_within (nI i) 0 1 = some 1 from i5]
    simp only [Option.bind_some, if_neg n10]
    refine ev_call (eve_m RA.rm) (fun r hr => ?_)
    obtain ⟨G, r1, r2, r3, r4⟩ := hr
    have e := best.uniq r3
    subst e
    have RR : Rel r.2.2.2 := ⟨f, s, φ, b, RA.scr (r4.mono (by decide)) (RA.thk.eq (r4.i 17 (by decide)))⟩
    by_cases z : i = 0
    · rw [if_pos z] at hx
      rw [if_pos (by rw [z]; rfl)]
      exact ev_some ⟨by rw [hx, r2], RR⟩
    · rw [if_neg z] at hx
      rw [if_neg (by rw [nl0, nI_eq (by omega) (by decide)]; exact z)]
      exact ev_some ⟨by rw [hx, r1], RR⟩
  by_cases z : i = 0
  · rw [if_pos (by rw [z]; rfl)]
    exact ⟨_, rfl, key _ (by rw [if_pos z]; exact t2.1)⟩
  · rw [if_neg (by rw [nl0, nI_eq (by omega) (by decide)]; exact z)]
    exact ⟨_, rfl, key _ (by rw [if_neg z]; exact t2.2.1)⟩
