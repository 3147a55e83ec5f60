/-- the first two houses alike: 12 a + i -/
def al2 (s : Sc) (a : Nat) : Nat → Nat → Option Nat
  | _, 0 => none
  | i, r + 1 => if scN s a = scN s i then some (12 * a + i) else al2 s a (i + 1) r
def al1 (s : Sc) : Nat → Nat → Option Nat
  | _, 0 => none
  | a, r + 1 => if scN s a = 0 then al1 s (a + 1) r else (al2 s a (a + 1) (11 - a)).elim (al1 s (a + 1) r) some
theorem al2_x {s : Sc} {h : Hp} {w : Nat} (so : ScOk w s) (S : ScX w s 17 h) {a : Nat} (ha : a < 12) : Ev (iter (b_X5_alike_24 17 (nI a) h) FU (nI (a + 1))) fun o => Sum.elim (fun _ : Int32 => al2 s a (a + 1) (11 - a) = none) (fun r : Int32 => ∃ x, al2 s a (a + 1) (11 - a) = some x ∧ r = nI x) o := by
  obtain ⟨C, hC⟩ : ∃ C, C = al2 s a (a + 1) (11 - a) := ⟨_, rfl⟩
  rw [← hC]
  refine ev_for (k := a + 1) (fun i (x : Int32) => a < i ∧ x = nI i ∧ al2 s a i (12 - i) = C) 12 (fun i x hi hP => ?_) ⟨by omega, rfl, by rw [hC, show 12 - (a + 1) = 11 - a by omega]⟩ (by omega) (by rw [FUe]; omega)
  obtain ⟨p0, rfl, p2⟩ := hP
  unfold b_X5_alike_24
  by_cases z : 12 ≤ i
  · rw [if_pos (by rw [nl12]; exact nI_le z (by omega))]
    rw [show 12 - i = 0 by omega] at p2
    exact ev_some (by rw [← p2]; rfl)
  · have h1 := so.1 a ha
    have h2 := so.1 i (by omega)
    rw [if_neg (by rw [nl12, nI_leI (by decide) (by omega)]; exact z), show pf 17 0 = 18 from rfl, rd_18 ha, rd_18 (by omega), S.n17 ha, S.n17 (show i < 12 by omega)]
    simp only [Option.bind_some]
    rw [show 12 - i = (12 - (i + 1)) + 1 by omega, al2] at p2
    by_cases q : scN s a = scN s i
    · rw [if_pos (by rw [q])]
      rw [if_pos q] at p2
      exact ev_some ⟨_, p2.symm, by rw [nl12, nI_mul, nI_add]⟩
    · rw [if_neg (by rw [nI_eq (by omega) (by omega)]; exact q)]
      rw [if_neg q] at p2
      exact ev_some ⟨by omega, by omega, by rw [nl1, nI_add], p2⟩
theorem al2_m {s : Sc} {h : Hp} {w : Nat} (so : ScOk w s) (S : ScM w s h) {a : Nat} (ha : a < 12) (h0 : scN s a ≠ 0) : Ev (iter (b_X8_alike_12 (nI a) h) FU (nI (a + 1))) fun o => Sum.elim (fun _ : Int32 => al2 s a (a + 1) (11 - a) = none) (fun r : Int32 => ∃ x, al2 s a (a + 1) (11 - a) = some x ∧ r = nI x) o := by
  obtain ⟨C, hC⟩ : ∃ C, C = al2 s a (a + 1) (11 - a) := ⟨_, rfl⟩
  rw [← hC]
  refine ev_for (k := a + 1) (fun i (x : Int32) => a < i ∧ x = nI i ∧ al2 s a i (12 - i) = C) 12 (fun i x hi hP => ?_) ⟨by omega, rfl, by rw [hC, show 12 - (a + 1) = 11 - a by omega]⟩ (by omega) (by rw [FUe]; omega)
  obtain ⟨p0, rfl, p2⟩ := hP
  unfold b_X8_alike_12
  by_cases z : 12 ≤ i
  · rw [if_pos (by rw [nl12]; exact nI_le z (by omega))]
    rw [show 12 - i = 0 by omega] at p2
    exact ev_some (by rw [← p2]; rfl)
  · have h1 := so.1 a ha
    have h2 := so.1 i (by omega)
    rw [if_neg (by rw [nl12, nI_leI (by decide) (by omega)]; exact z), rd_54 ha, rd_54 (by omega), S.1 a ha, S.1 i (by omega)]
    simp only [Option.bind_some]
    rw [if_neg (nI_nle (by omega) (by omega))]
    rw [show 12 - i = (12 - (i + 1)) + 1 by omega, al2] at p2
    by_cases q : scN s a = scN s i
    · rw [if_pos (by rw [q])]
      rw [if_pos q] at p2
      exact ev_some ⟨_, p2.symm, by rw [nl12, nI_mul, nI_add]⟩
    · rw [if_neg (by rw [nI_eq (by omega) (by omega)]; exact q)]
      rw [if_neg q] at p2
      exact ev_some ⟨by omega, by omega, by rw [nl1, nI_add], p2⟩
theorem al2_z {s : Sc} {h : Hp} {w : Nat} (S : ScM w s h) {a : Nat} (ha : a < 12) (h0 : scN s a = 0) : Ev (iter (b_X8_alike_12 (nI a) h) FU (nI (a + 1))) fun o => Sum.elim (fun _ : Int32 => True) (fun _ : Int32 => False) o := by
  refine ev_for (k := a + 1) (fun i (x : Int32) => x = nI i) 12 (fun i x hi hP => ?_) rfl (by omega) (by rw [FUe]; omega)
  subst hP
  unfold b_X8_alike_12
  by_cases z : 12 ≤ i
  · rw [if_pos (by rw [nl12]; exact nI_le z (by omega))]
    exact ev_some trivial
  · rw [if_neg (by rw [nl12, nI_leI (by decide) (by omega)]; exact z), rd_54 ha, S.1 a ha]
    simp only [Option.bind_some]
    rw [if_pos (by rw [h0]; decide)]
    exact ev_some ⟨by omega, by rw [nl1, nI_add]⟩
def alV (s : Sc) : Int32 := (al1 s 0 12).elim (-2) nI
theorem alike_x {s : Sc} {h : Hp} {w : Nat} (so : ScOk w s) (S : ScX w s 17 h) : Ev (f_X5_alike 17 h) fun r => r = alV s := by
  unfold f_X5_alike
  rw [if_pos (by decide)]
  obtain ⟨C, hC⟩ : ∃ C, C = al1 s 0 12 := ⟨_, rfl⟩
  unfold alV
  rw [← hC]
  refine ev_call (P := fun o => Sum.elim (fun _ : Int32 => C = none) (fun r : Int32 => ∃ x, C = some x ∧ r = nI x) o) (ev_for (k := 0) (fun i (x : Int32) => x = nI i ∧ al1 s i (12 - i) = C) 12 (fun i x hi hP => ?_) ⟨rfl, hC.symm⟩ (Nat.zero_le _) (by rw [FUe]; decide)) (fun o ho => ?_)
  · obtain ⟨rfl, p2⟩ := hP
    unfold b_X5_alike_2
    by_cases z : 12 ≤ i
    · rw [if_pos (by rw [nl12]; exact nI_le z (by omega))]
      rw [show 12 - i = 0 by omega] at p2
      exact ev_some (by rw [← p2]; rfl)
    · have h1 := so.1 i (by omega)
      rw [if_neg (by rw [nl12, nI_leI (by decide) (by omega)]; exact z), show pf 17 0 = 18 from rfl, rd_18 (by omega), S.n17 (show i < 12 by omega)]
      simp only [Option.bind_some]
      rw [show 12 - i = (12 - (i + 1)) + 1 by omega, al1] at p2
      by_cases q : scN s i = 0
      · rw [if_pos (by rw [q]; rfl)]
        rw [if_pos q] at p2
        exact ev_some ⟨by omega, by rw [nl1, nI_add], p2⟩
      · rw [if_neg (by rw [nl0, nI_eq (by omega) (by decide)]; exact q)]
        rw [if_neg q] at p2
        rw [nl1, nI_add]
        refine ev_call (al2_x so S (show i < 12 by omega)) (fun o ho => ?_)
        cases o with
        | inl a =>
          rw [show al2 s i (i + 1) (11 - i) = none from ho] at p2
          exact ev_some ⟨by omega, rfl, p2⟩
        | inr a =>
          obtain ⟨x, hx, rfl⟩ := ho
          rw [hx] at p2
          exact ev_some ⟨x, p2.symm, rfl⟩
  · cases o with
    | inl a => rw [show C = none from ho]; exact ev_some rfl
    | inr a =>
      obtain ⟨x, hx, rfl⟩ := ho
      rw [hx]; exact ev_some rfl
theorem alike_m {s : Sc} {h : Hp} {w : Nat} (so : ScOk w s) (S : ScM w s h) : Ev (f_X8_alike h) fun r => r = alV s := by
  unfold f_X8_alike
  obtain ⟨C, hC⟩ : ∃ C, C = al1 s 0 12 := ⟨_, rfl⟩
  unfold alV
  rw [← hC]
  refine ev_call (P := fun o => Sum.elim (fun _ : Int32 => C = none) (fun r : Int32 => ∃ x, C = some x ∧ r = nI x) o) (ev_for (k := 0) (fun i (x : Int32) => x = nI i ∧ al1 s i (12 - i) = C) 12 (fun i x hi hP => ?_) ⟨rfl, hC.symm⟩ (Nat.zero_le _) (by rw [FUe]; decide)) (fun o ho => ?_)
  · obtain ⟨rfl, p2⟩ := hP
    unfold b_X8_alike_2
    by_cases z : 12 ≤ i
    · rw [if_pos (by rw [nl12]; exact nI_le z (by omega))]
      rw [show 12 - i = 0 by omega] at p2
      exact ev_some (by rw [← p2]; rfl)
    · rw [if_neg (by rw [nl12, nI_leI (by decide) (by omega)]; exact z), nl1, nI_add]
      rw [show 12 - i = (12 - (i + 1)) + 1 by omega, al1] at p2
      by_cases q : scN s i = 0
      · rw [if_pos q] at p2
        refine ev_call (al2_z S (show i < 12 by omega) q) (fun o ho => ?_)
        cases o with
        | inl a => exact ev_some ⟨by omega, rfl, p2⟩
        | inr a => exact absurd ho id
      · rw [if_neg q] at p2
        refine ev_call (al2_m so S (show i < 12 by omega) q) (fun o ho => ?_)
        cases o with
        | inl a =>
          rw [show al2 s i (i + 1) (11 - i) = none from ho] at p2
          exact ev_some ⟨by omega, rfl, p2⟩
        | inr a =>
          obtain ⟨x, hx, rfl⟩ := ho
          rw [hx] at p2
          exact ev_some ⟨x, p2.symm, rfl⟩
  · cases o with
    | inl a => rw [show C = none from ho]; exact ev_some rfl
    | inr a =>
      obtain ⟨x, hx, rfl⟩ := ho
      rw [hx]; exact ev_some rfl
