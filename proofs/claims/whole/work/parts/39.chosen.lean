def cb (m : Nat) : Nat → Nat
  | 0 => 0
  | n + 1 => cb m n + (if m.testBit n then 1 else 0)
theorem cb_full {m : Nat} : ∀ {n : Nat}, (∀ i, i < n → m.testBit i = true) → cb m n = n
  | 0, _ => rfl
  | n + 1, h => by
    show cb m n + _ = _
    rw [cb_full (fun i hi => h i (by omega)), if_pos (h n (by omega))]
theorem cb_free {m n : Nat} (h : cb m n < n) : ∃ i, i < n ∧ m.testBit i = false := by
  apply Classical.byContradiction
  intro q
  have := cb_full (m := m) (n := n) fun i hi => by
    cases e : m.testBit i with
    | true => rfl
    | false => exact absurd ⟨i, hi, e⟩ q
  omega
theorem cb_out {m c : Nat} : ∀ {n : Nat}, n ≤ c → cb (m ||| 2 ^ c) n = cb m n
  | 0, _ => rfl
  | n + 1, h => by
    show cb _ n + _ = cb _ n + _
    rw [cb_out (by omega), Nat.testBit_or, Nat.testBit_two_pow]
    simp [show ¬ c = n by omega]
theorem cb_or {m c : Nat} : ∀ n : Nat, cb (m ||| 2 ^ c) n ≤ cb m n + 1
  | 0 => Nat.zero_le _
  | n + 1 => by
    show cb _ n + _ ≤ cb _ n + _ + 1
    rw [Nat.testBit_or, Nat.testBit_two_pow]
    by_cases q : c = n
    · subst q
      rw [cb_out (Nat.le_refl _)]
      split <;> split <;> omega
    · have := cb_or (m := m) (c := c) n
      simp [q]
      omega
/-- the houses taken when k have chosen, and the last one's -/
def chm (f : Fo) (s : Sc) : Nat → Nat × Nat
  | 0 => (0, 0)
  | k + 1 => ((chm f s k).1 ||| 2 ^ nrst s (9 * foA f k) (chm f s k).1 12, nrst s (9 * foA f k) (chm f s k).1 12)
theorem chm_cb (f : Fo) (s : Sc) : ∀ k, cb (chm f s k).1 12 ≤ k
  | 0 => by show cb 0 12 ≤ 0; decide
  | k + 1 => by
    have := chm_cb f s k
    have h2 := cb_or (m := (chm f s k).1) (c := nrst s (9 * foA f k) (chm f s k).1 12) 12
    show cb _ 12 ≤ _
    exact Nat.le_trans h2 (by omega)
theorem chm_ok (f : Fo) (s : Sc) {k : Nat} (hk : k ≤ 11) : nrst s (9 * foA f k) (chm f s k).1 12 < 12 := by
  have := chm_cb f s k
  exact nrst_some s _ _ 12 (Nat.le_refl _) (cb_free (by omega))
theorem chm_lt (f : Fo) (s : Sc) : ∀ k, k ≤ 11 → (chm f s k).1 < 4096
  | 0, _ => by show 0 < 4096; decide
  | k + 1, hk => by
    have h1 := chm_lt f s k (by omega)
    have h2 := chm_ok f s (k := k) (by omega)
    show _ ||| 2 ^ _ < 2 ^ 12
    exact Nat.or_lt_two_pow h1 (Nat.pow_lt_pow_right (by decide) h2)
theorem chosen_x {f : Fo} {s : Sc} {h : Hp} (ok : FoOk f) (so : ScOk (foW f) s) (F : FoX f h) (S : ScX (foW f) s 13 h) {n : Nat} (hn : n < foP f) : Ev (iter (b_X7_chosen_20 (nI n) h) FU (0, 0, 0)) fun r => r.2.1 = nI (chm f s (n + 1)).2 := by
  have hp := ok.1
  refine ev_for (k := 0) (fun k s' => s'.2.2 = nI k ∧ s'.1 = nI (chm f s k).1 ∧ s'.2.1 = nI (chm f s k).2) (n + 1) (fun k s' hk hP => ?_) ⟨rfl, rfl, rfl⟩ (Nat.zero_le _) (by rw [FUe]; omega)
  obtain ⟨x, y, z⟩ := s'
  obtain ⟨e1, e2, e3⟩ := hP
  simp only at e1 e2 e3
  subst e1 e2 e3
  unfold b_X7_chosen_20
  by_cases q : n < k
  · rw [if_pos (nI_lt q (by omega))]
    have : k = n + 1 := by omega
    subst this
    exact ev_some rfl
  · have ha := (F.2.2.1 k (by omega)).2
    have hb := (ok.2.2.1 k (by omega)).2
    have hc := chm_ok f s (k := k) (by omega)
    rw [if_neg (nI_nlt (by omega) (by omega)), rd_3 (by omega), ha]
    simp only [Option.bind_some]
    rw [nl9, nI_mul]
    refine ev_call (near_x so S (show 9 * foA f k ≤ 999 by omega) (chm_lt f s k (by omega))) (fun v hv => ?_)
    rw [if_neg (by omega)] at hv
    subst hv
    refine ev_some ⟨by omega, by rw [nl1, nI_add], ?_, rfl⟩
    exact bit_or (chm_lt f s k (by omega)) hc
theorem a_chosen (v : Int32) (h : Hp) (R : Rel h) : Ev (f_X7_chosen v h) fun r => Ev (f_X8_chosen v h) fun t => r = t.1 ∧ Rel t.2 := by
  have R0 := R
  obtain ⟨f, s, φ, b, R0A⟩ := R
  obtain ⟨⟨r1, r2, r3, r4⟩, ⟨r5, r6, r7, r8⟩, _⟩ := id R0A
  have n10 : ¬ (1 : Int32) = 0 := by decide
  have hp := r3.1
  unfold f_X7_chosen
  rcases one_c r3 r5 r6 v with ⟨n, hn, rfl, e1, e2⟩ | ⟨e1, e2⟩
  · rw [e1]
    simp only [Option.bind_some, if_neg n10]
    refine ev_call (chosen_x r3 r4 r5 r7 hn) (fun u hu => ev_some ?_)
    rw [hu]
    have key : Ev (f_X8_chosen (nI n) h) fun t => nI (chm f s (n + 1)).2 = t.1 := by
      unfold f_X8_chosen
      rw [e2]
      simp only [Option.bind_some, if_neg n10]
      refine ev_call (P := fun r => ∀ i, i < foP f → r.2.2.1 85 i = nI (chm f s (i + 1)).2) (ev_for (k := 0) (fun k s' => s'.2.1 = nI k ∧ s'.1 = nI (chm f s k).1 ∧ Kp [85] h s'.2.2 ∧ ∀ i, i < k → s'.2.2.1 85 i = nI (chm f s (i + 1)).2) (foP f) (fun k s' hk hP => ?_) ⟨rfl, rfl, Kp.refl r1, fun i hi => absurd hi (Nat.not_lt_zero i)⟩ (Nat.zero_le _) (by rw [FUe]; omega)) (fun u hu => ?_)
      · obtain ⟨x, y, g⟩ := s'
        obtain ⟨e1, e2, K, e3⟩ := hP
        simp only at e1 e2 K e3
        subst e1 e2
        unfold b_X8_chosen_14
        have g6 : FoM f g := r6.kp K (by rw [K.i 53 (by decide)]) (by rw [K.i 53 (by decide)]) (by decide)
        have g8 : ScM (foW f) s g := r8.kp K (by rw [K.i 53 (by decide)]) (by decide)
        rw [g6.1]
        by_cases q : foP f ≤ k
        · rw [if_pos (nI_le q (by omega))]
          have : k = foP f := by omega
          subst this
          exact ev_some e3
        · have ha := (g6.2.2.1 k (by omega)).2
          have hb := (r3.2.2.1 k (by omega)).2
          have hc := chm_ok f s (k := k) (by omega)
          rw [if_neg (by rw [nI_leI (by omega) (by omega)]; exact q), rd_56 (by omega), ha]
          simp only [Option.bind_some]
          rw [nl9, nI_mul]
          refine ev_call (near_m r4 g8 (show 9 * foA f k ≤ 999 by omega) (chm_lt f s k (by omega))) (fun v hv => ?_)
          rw [if_neg (by omega)] at hv
          subst hv
          rw [wr_85 (by omega)]
          simp only [Option.bind_some]
          rw [rd_85 (by omega)]
          simp only [Option.bind_some]
          refine ev_some ⟨by omega, by rw [nl1, nI_add], ?_, K.st (by decide), fun i hi => ?_⟩
          · show _ ||| ((1 : Int32) <<< ((stI g 85 k (nI _)).1 85 k &&& 31)) = _
            rw [stI_at, if_pos rfl, if_pos rfl]
            exact bit_or (chm_lt f s k (by omega)) hc
          · show (stI g 85 k (nI _)).1 85 i = _
            rw [stI_at, if_pos rfl]
            by_cases z : i = k
            · subst z; rw [if_pos rfl]; rfl
            · rw [if_neg z]; exact e3 i (by omega)
      · rw [rd_85 (by omega), hu n hn]
        exact ⟨_, rfl, rfl⟩
    obtain ⟨t, h1, h2⟩ := key
    have K := kp_in r1 (fr_X8_chosen (W := fun k => SCR.contains k) (by decide) _ _ _ h1)
    have K2 : Kp [85] h t.2 := kp_in r1 (fr_X8_chosen (by decide) _ _ _ h1)
    exact ⟨t, h1, h2, (R0A.scr K (R0A.thk.eq (K2.i 17 (by decide)))).n⟩
  · rw [e1]
    refine ⟨_, rfl, ?_⟩
    unfold f_X8_chosen
    rw [e2]
    exact ⟨_, rfl, rfl, R0⟩
