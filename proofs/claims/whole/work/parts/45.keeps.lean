def OkC (c : Nat) : Prop := SI c = 37 ∧ c ≠ 53 ∧ c ≠ 54 ∧ c ≠ 60 ∧ c ≠ 61
theorem okc74 : OkC 74 := by unfold OkC; decide
theorem okc82 : OkC 82 := by unfold OkC; decide
theorem okc83 : OkC 83 := by unfold OkC; decide
/-- the reference keeps its scene aside -/
def KeptAt (c : Nat) (h g : Hp) : Prop := (∀ i, i < 12 → g.1 c i = h.1 54 i ∧ g.1 c (12 + i) = h.1 61 i ∧ g.1 c (24 + i) = h.1 60 i) ∧ g.1 c 36 = h.1 53 10
theorem keeps_m {c : Nat} (hc : OkC c) {h : Hp} (q : LR h) : Ev (f_X8_keeps c h) fun g => KeptAt c h g ∧ Kp [c] h g := by
  obtain ⟨c1, c2, c3, c4, c5⟩ := hc
  refine ev_kp (hp := fun g => g) q ?_ (fun r e => fr_X8_keeps (by simp [L_X8_keeps]) c _ (by simp) r e)
  unfold f_X8_keeps
  refine ev_call (P := fun s' : Int32 × Hp => (∀ i, i < 12 → s'.2.1 c i = h.1 54 i ∧ s'.2.1 c (12 + i) = h.1 61 i ∧ s'.2.1 c (24 + i) = h.1 60 i) ∧ ∀ k, k ≠ c → s'.2.1 k = h.1 k) (ev_for (k := 0) (fun i s' => s'.1 = nI i ∧ (∀ j, j < i → s'.2.1 c j = h.1 54 j ∧ s'.2.1 c (12 + j) = h.1 61 j ∧ s'.2.1 c (24 + j) = h.1 60 j) ∧ ∀ k, k ≠ c → s'.2.1 k = h.1 k) 12 (fun i s' hi hP => ?_) ⟨rfl, fun j hj => absurd hj (Nat.not_lt_zero j), fun _ _ => rfl⟩ (Nat.zero_le _) (by rw [FUe]; decide)) (fun x hx => ?_)
  · obtain ⟨x, g⟩ := s'
    obtain ⟨p1, p2, p3⟩ := hP
    simp only at p1 p2 p3
    subst p1
    unfold b_X8_keeps_2
    by_cases z : 12 ≤ i
    · rw [if_pos (by rw [nl12]; exact nI_le z (by omega))]
      have : i = 12 := by omega
      subst this
      exact ev_some ⟨p2, p3⟩
    · rw [if_neg (by rw [nl12, nI_leI (by decide) (by omega)]; exact z), rd_54 (by omega)]
      simp only [Option.bind_some]
      rw [wrI_n (by omega) (by omega)]
      simp only [Option.bind_some]
      rw [rd_61 (by omega)]
      simp only [Option.bind_some]
      rw [nl12, nI_add, wrI_n (by omega) (by omega)]
      simp only [Option.bind_some]
      rw [rd_60 (by omega)]
      simp only [Option.bind_some]
      rw [nl24, nI_add, wrI_n (by omega) (by omega)]
      refine ev_some ⟨by omega, by rw [nl1, nI_add], fun j hj => ?_, fun k hk => ?_⟩
      · simp only [stI_at, if_true, if_neg (Ne.symm c3), if_neg (Ne.symm c5), if_neg (Ne.symm c4), p3 54 (Ne.symm c3), p3 61 (Ne.symm c5), p3 60 (Ne.symm c4)]
        by_cases e : j = i
        · subst e
          rw [if_neg (by omega), if_neg (by omega), if_pos rfl, if_neg (by omega), if_pos rfl, if_pos rfl]
          exact ⟨rfl, rfl, rfl⟩
        · obtain ⟨y1, y2, y3⟩ := p2 j (by omega)
          rw [if_neg (by omega), if_neg (by omega), if_neg e, if_neg (by omega), if_neg (by omega), if_neg (by omega), if_neg (by omega), if_neg (by omega), if_neg (by omega)]
          exact ⟨y1, y2, y3⟩
      · funext j
        simp only [stI_at, if_neg hk, p3 k hk]
  · obtain ⟨x1, x2⟩ := hx
    rw [nl36, wrI_n (by omega) (by omega)]
    refine ev_some ⟨fun i hi => ?_, ?_⟩
    · obtain ⟨y1, y2, y3⟩ := x1 i hi
      simp only [stI_at, if_true]
      rw [if_neg (by omega), if_neg (by omega), if_neg (by omega)]
      exact ⟨y1, y2, y3⟩
    · simp only [stI_at, if_true]
      rw [x2 53 (Ne.symm c2)]
theorem lays_m {c : Nat} (hc : OkC c) {h : Hp} (q : LR h) : Ev (f_X8_laysBack c h) fun g => ((∀ i, i < 12 → g.1 54 i = h.1 c i ∧ g.1 61 i = h.1 c (12 + i) ∧ g.1 60 i = h.1 c (24 + i)) ∧ g.1 53 10 = h.1 c 36 ∧ ∀ j, j ≠ 10 → g.1 53 j = h.1 53 j) ∧ Kp [53, 54, 60, 61] h g := by
  obtain ⟨c1, c2, c3, c4, c5⟩ := hc
  refine ev_kp (hp := fun g => g) q ?_ (fun r e => fr_X8_laysBack (by simp [L_X8_laysBack]) c _ r e)
  unfold f_X8_laysBack
  refine ev_call (P := fun s' : Int32 × Hp => (∀ i, i < 12 → s'.2.1 54 i = h.1 c i ∧ s'.2.1 61 i = h.1 c (12 + i) ∧ s'.2.1 60 i = h.1 c (24 + i)) ∧ ∀ k, k ≠ 54 → k ≠ 60 → k ≠ 61 → s'.2.1 k = h.1 k) (ev_for (k := 0) (fun i s' => s'.1 = nI i ∧ (∀ j, j < i → s'.2.1 54 j = h.1 c j ∧ s'.2.1 61 j = h.1 c (12 + j) ∧ s'.2.1 60 j = h.1 c (24 + j)) ∧ ∀ k, k ≠ 54 → k ≠ 60 → k ≠ 61 → s'.2.1 k = h.1 k) 12 (fun i s' hi hP => ?_) ⟨rfl, fun j hj => absurd hj (Nat.not_lt_zero j), fun _ _ _ _ => rfl⟩ (Nat.zero_le _) (by rw [FUe]; decide)) (fun x hx => ?_)
  · obtain ⟨x, g⟩ := s'
    obtain ⟨p1, p2, p3⟩ := hP
    simp only at p1 p2 p3
    subst p1
    unfold b_X8_laysBack_2
    by_cases z : 12 ≤ i
    · rw [if_pos (by rw [nl12]; exact nI_le z (by omega))]
      have : i = 12 := by omega
      subst this
      exact ev_some ⟨p2, p3⟩
    · rw [if_neg (by rw [nl12, nI_leI (by decide) (by omega)]; exact z), rdI_n (by omega) (by omega)]
      simp only [Option.bind_some]
      rw [wr_54 (by omega)]
      simp only [Option.bind_some]
      rw [nl12, nI_add, rdI_n (by omega) (by omega)]
      simp only [Option.bind_some]
      rw [wr_61 (by omega)]
      simp only [Option.bind_some]
      rw [nl24, nI_add, rdI_n (by omega) (by omega)]
      simp only [Option.bind_some]
      rw [wr_60 (by omega)]
      refine ev_some ⟨by omega, by rw [nl1, nI_add], fun j hj => ?_, fun k h1 h2 h3 => ?_⟩
      · simp only [stI_at, if_true, if_neg c3, if_neg c5, if_neg c4, p3 c c3 c4 c5, show ((54 : Nat) = 60) = False by decide, show ((54 : Nat) = 61) = False by decide, show ((61 : Nat) = 60) = False by decide, show ((61 : Nat) = 54) = False by decide, show ((60 : Nat) = 61) = False by decide, show ((60 : Nat) = 54) = False by decide, if_false]
        by_cases e : j = i
        · subst e
          rw [if_pos rfl, if_pos rfl, if_pos rfl]
          exact ⟨rfl, rfl, rfl⟩
        · obtain ⟨y1, y2, y3⟩ := p2 j (by omega)
          rw [if_neg e, if_neg e, if_neg e]
          exact ⟨y1, y2, y3⟩
      · funext j
        simp only [stI_at, if_neg h1, if_neg h2, if_neg h3, p3 k h1 h2 h3]
  · obtain ⟨x1, x2⟩ := hx
    rw [nl36, rdI_n (by omega) (by omega)]
    refine ev_some ⟨fun i hi => ?_, ?_, fun j hj => ?_⟩
    · obtain ⟨y1, y2, y3⟩ := x1 i hi
      exact ⟨y1, y2, y3⟩
    · simp only [stI_at, if_true]
      rw [x2 c c3 c4 c5]
    · simp only [stI_at, if_true, if_neg hj]
      rw [x2 53 (by decide) (by decide) (by decide)]
/-- what was kept, and laid back: the scene as it was -/
theorem laid {c w : Nat} {s : Sc} {h g k k' : Hp} (hw : w ≤ 12) (S : ScM w s h) (K : KeptAt c h g) (e : k.1 c = g.1 c) (L : (∀ i, i < 12 → k'.1 54 i = k.1 c i ∧ k'.1 61 i = k.1 c (12 + i) ∧ k'.1 60 i = k.1 c (24 + i)) ∧ k'.1 53 10 = k.1 c 36 ∧ ∀ j, j ≠ 10 → k'.1 53 j = k.1 53 j) : ScM w s k' := by
  obtain ⟨l1, l2, l3⟩ := L
  obtain ⟨k1, k2⟩ := K
  refine ⟨fun i hi => ?_, fun i hi => ?_, fun i hi => ?_, ?_⟩
  · rw [(l1 i hi).1, e, (k1 i hi).1, S.1 i hi]
  · rw [(l1 i (by omega)).2.2, e, (k1 i (by omega)).2.2, S.2.1 i hi]
  · rw [(l1 i (by omega)).2.1, e, (k1 i (by omega)).2.1, S.2.2.1 i hi]
  · rw [l2, e, k2, S.2.2.2]
