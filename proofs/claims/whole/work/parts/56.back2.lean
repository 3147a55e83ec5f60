theorem back1 {h : Hp} (q : LR h) : Ev (iter b_X8_back_12 FU (0, h)) fun r => (∀ i, i < 12 → r.2.1 54 i = h.1 74 i) ∧ Kp [54] h r.2 := by
  refine ev_for (k := 0) (fun i (r : Int32 × Hp) => r.1 = nI i ∧ (∀ j, j < i → r.2.1 54 j = h.1 74 j) ∧ Kp [54] h r.2) 12 (fun i r hi hP => ?_) ⟨rfl, fun j hj => absurd hj (Nat.not_lt_zero j), Kp.refl q⟩ (Nat.zero_le _) (by rw [FUe]; decide)
  obtain ⟨x, g⟩ := r
  obtain ⟨p1, p2, p3⟩ := hP
  simp only at p1 p2 p3
  subst p1
  unfold b_X8_back_12
  by_cases z : 12 ≤ i
  · rw [if_pos (by rw [nl12]; exact nI_le z (by omega))]
    have : i = 12 := by omega
    subst this
    exact ev_some ⟨p2, p3⟩
  · rw [if_neg (by rw [nl12, nI_leI (by decide) (by omega)]; exact z), rd_74 (by omega)]
    simp only [Option.bind_some]
    rw [wr_54 (by omega)]
    refine ev_some ⟨by omega, by rw [nl1, nI_add], fun j hj => ?_, p3.st (by decide)⟩
    simp only [stI_at, if_true, p3.i 74 (by decide)]
    by_cases e : j = i
    · rw [if_pos e, e]
    · rw [if_neg e]; exact p2 j (by omega)
theorem back2 {h : Hp} {v : Nat} (q : LR h) (hv : v ≤ 12) (e : h.1 53 31 = nI v) : Ev (iter b_X8_back_38 FU (0, h)) fun r => (∀ i, r.2.1 61 i = if i < v then h.1 74 (12 + i) else h.1 61 i) ∧ (∀ i, r.2.1 60 i = if i < v then h.1 74 (24 + i) else h.1 60 i) ∧ Kp [60, 61] h r.2 := by
  refine ev_for (k := 0) (fun i (r : Int32 × Hp) => r.1 = nI i ∧ (∀ j, r.2.1 61 j = if j < i then h.1 74 (12 + j) else h.1 61 j) ∧ (∀ j, r.2.1 60 j = if j < i then h.1 74 (24 + j) else h.1 60 j) ∧ Kp [60, 61] h r.2) v (fun i r hi hP => ?_) ⟨rfl, fun j => by rw [if_neg (Nat.not_lt_zero j)], fun j => by rw [if_neg (Nat.not_lt_zero j)], Kp.refl q⟩ (Nat.zero_le _) (by rw [FUe]; omega)
  obtain ⟨x, g⟩ := r
  obtain ⟨p1, p2, p3, p4⟩ := hP
  simp only at p1 p2 p3 p4
  subst p1
  unfold b_X8_back_38
  rw [p4.i 53 (by decide), e]
  by_cases z : v ≤ i
  · rw [if_pos (nI_le z (by omega))]
    have : i = v := by omega
    subst this
    exact ev_some ⟨p2, p3, p4⟩
  · rw [if_neg (by rw [nI_leI (by omega) (by omega)]; exact z), nl12, nI_add, rd_74 (by omega)]
    simp only [Option.bind_some]
    rw [wr_61 (by omega)]
    simp only [Option.bind_some]
    rw [nl24, nI_add, rd_74 (by omega)]
    simp only [Option.bind_some]
    rw [wr_60 (by omega)]
    refine ev_some ⟨by omega, by rw [nl1, nI_add], fun j => ?_, fun j => ?_, (p4.st (by decide)).st (by decide)⟩
    · simp only [stI_at, if_true, show ((61 : Nat) = 60) = False by decide, if_false, p4.i 74 (by decide)]
      by_cases e : j = i
      · rw [if_pos e, if_pos (by omega), e]
      · rw [if_neg e, p2 j]
        by_cases z : j < i
        · rw [if_pos z, if_pos (by omega)]
        · rw [if_neg z, if_neg (by omega)]
    · simp only [stI_at, if_true, show ((74 : Nat) = 61) = False by decide, show ((60 : Nat) = 61) = False by decide, if_false, p4.i 74 (by decide)]
      by_cases e : j = i
      · rw [if_pos e, if_pos (by omega), e]
      · rw [if_neg e, p3 j]
        by_cases z : j < i
        · rw [if_pos z, if_pos (by omega)]
        · rw [if_neg z, if_neg (by omega)]
theorem back3 {h : Hp} (q : LR h) : Ev (iter b_X8_back_95 FU (0, h)) fun r => (∀ i, i < 6 → r.2.1 73 i = h.1 75 i) ∧ Kp [73] h r.2 := by
  refine ev_for (k := 0) (fun i (r : Int32 × Hp) => r.1 = nI i ∧ (∀ j, j < i → r.2.1 73 j = h.1 75 j) ∧ Kp [73] h r.2) 6 (fun i r hi hP => ?_) ⟨rfl, fun j hj => absurd hj (Nat.not_lt_zero j), Kp.refl q⟩ (Nat.zero_le _) (by rw [FUe]; decide)
  obtain ⟨x, g⟩ := r
  obtain ⟨p1, p2, p3⟩ := hP
  simp only at p1 p2 p3
  subst p1
  unfold b_X8_back_95
  by_cases z : 6 ≤ i
  · rw [if_pos (by rw [nl6]; exact nI_le z (by omega))]
    have : i = 6 := by omega
    subst this
    exact ev_some ⟨p2, p3⟩
  · rw [if_neg (by rw [nl6, nI_leI (by decide) (by omega)]; exact z), rd_75 (by omega)]
    simp only [Option.bind_some]
    rw [wr_73 (by omega)]
    refine ev_some ⟨by omega, by rw [nl1, nI_add], fun j hj => ?_, p3.st (by decide)⟩
    simp only [stI_at, if_true, p3.i 75 (by decide)]
    by_cases e : j = i
    · rw [if_pos e, e]
    · rw [if_neg e]; exact p2 j (by omega)
