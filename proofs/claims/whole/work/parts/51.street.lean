def sumN (s : Sc) : Nat → Int32
  | 0 => 0
  | n + 1 => sumN s n + nI (scN s n)
theorem total_x {f : Fo} {φ : Ph} {s : Sc} {h g : Hp} (T : ThX f φ s h g) : Ev (f_X5_total 17 g) fun r => r = sumN s 12 := by
  unfold f_X5_total
  rw [if_pos (by decide)]
  refine ev_call (P := fun r : Int32 × Int32 => r.1 = sumN s 12) (ev_for (k := 0) (fun k (r : Int32 × Int32) => r.2 = nI k ∧ r.1 = sumN s k) 12 (fun k r hk hP => ?_) ⟨rfl, rfl⟩ (Nat.zero_le _) (by rw [FUe]; decide)) (fun r hr => ev_some hr)
  obtain ⟨x, y⟩ := r
  obtain ⟨p1, p2⟩ := hP
  simp only at p1 p2
  subst p1 p2
  unfold b_X5_total_4
  by_cases z : 12 ≤ k
  · rw [if_pos (by rw [nl12]; exact nI_le z (by omega))]
    have : k = 12 := by omega
    subst this
    exact ev_some rfl
  · rw [if_neg (by rw [nl12, nI_leI (by decide) (by omega)]; exact z), show pf 17 0 = 18 from rfl, rd_18 (by omega), T.2.n17 (by omega)]
    exact ev_some ⟨by omega, by rw [nl1, nI_add], rfl⟩
theorem total_m {w : Nat} {s : Sc} {h : Hp} (S : ScM w s h) : Ev (f_X8_allNumbers h) fun r => r = sumN s 12 := by
  unfold f_X8_allNumbers
  refine ev_call (P := fun r : Int32 × Int32 => r.1 = sumN s 12) (ev_for (k := 0) (fun k (r : Int32 × Int32) => r.2 = nI k ∧ r.1 = sumN s k) 12 (fun k r hk hP => ?_) ⟨rfl, rfl⟩ (Nat.zero_le _) (by rw [FUe]; decide)) (fun r hr => ev_some hr)
  obtain ⟨x, y⟩ := r
  obtain ⟨p1, p2⟩ := hP
  simp only at p1 p2
  subst p1 p2
  unfold b_X8_allNumbers_4
  by_cases z : 12 ≤ k
  · rw [if_pos (by rw [nl12]; exact nI_le z (by omega))]
    have : k = 12 := by omega
    subst this
    exact ev_some rfl
  · rw [if_neg (by rw [nl12, nI_leI (by decide) (by omega)]; exact z), rd_54 (by omega), S.1 k (by omega)]
    exact ev_some ⟨by omega, by rw [nl1, nI_add], rfl⟩
theorem forg_m {f : Fo} {s : Sc} {h : Hp} (hw : foW f ≤ 12) (F : FoM f h) (S : ScM (foW f) s h) : Ev (f_X8_allForgiven h) fun r => r = nI (msk (scF s) (foW f)) := by
  unfold f_X8_allForgiven
  refine ev_call (P := fun r : Int32 × Int32 => r.1 = nI (msk (scF s) (foW f))) (ev_for (k := 0) (fun k (r : Int32 × Int32) => r.2 = nI k ∧ r.1 = nI (msk (scF s) k)) (foW f) (fun k r hk hP => ?_) ⟨rfl, rfl⟩ (Nat.zero_le _) (by rw [FUe]; omega)) (fun r hr => ev_some hr)
  obtain ⟨x, y⟩ := r
  obtain ⟨p1, p2⟩ := hP
  simp only at p1 p2
  subst p1 p2
  unfold b_X8_allForgiven_4
  rw [F.2.1]
  by_cases z : foW f ≤ k
  · rw [if_pos (nI_le z (by omega))]
    have : k = foW f := by omega
    subst this
    exact ev_some rfl
  · rw [if_neg (by rw [nI_leI (by omega) (by omega)]; exact z), rd_61 (by omega), S.2.2.1 k (by omega)]
    simp only [Option.bind_some]
    cases e : scF s k with
    | true =>
      rw [if_pos (show nI (bI true) = 1 from rfl)]
      refine ev_some ⟨by omega, by rw [nl1, nI_add], ?_⟩
      show _ = nI (msk (scF s) k ||| (if scF s k then 2 ^ k else 0))
      rw [e]
      exact bit_or (msk_lt12 (by omega)) (by omega)
    | false =>
      rw [if_neg (show ¬ nI (bI false) = 1 by decide)]
      refine ev_some ⟨by omega, by rw [nl1, nI_add], ?_⟩
      show _ = nI (msk (scF s) k ||| (if scF s k then 2 ^ k else 0))
      rw [e, if_neg (by decide), Nat.or_zero]
