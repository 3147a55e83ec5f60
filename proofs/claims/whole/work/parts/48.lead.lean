/-- how many told calls may be made, from i on, among r -/
def goodT (w : Nat) (x : Int32) : Bool := decide (¬ x < 0) && decide (x / 12 < nI w)
def lead (V : Nat → Int32) (w : Nat) : Nat → Nat → Nat
  | i, 0 => i
  | i, r + 1 => if goodT w (V i) then lead V w (i + 1) r else i
theorem lead_le (V : Nat → Int32) (w : Nat) : ∀ r i, i ≤ lead V w i r ∧ lead V w i r ≤ i + r
  | 0, i => ⟨Nat.le_refl _, Nat.le_refl _⟩
  | r + 1, i => by
    have := lead_le V w r (i + 1)
    unfold lead
    split <;> omega
theorem lead_good (V : Nat → Int32) (w : Nat) : ∀ r i j, i ≤ j → j < lead V w i r → goodT w (V j) = true
  | 0, i, j, h1, h2 => absurd h2 (by show ¬ j < i; omega)
  | r + 1, i, j, h1, h2 => by
    unfold lead at h2
    by_cases q : goodT w (V i) = true
    · rw [if_pos q] at h2
      by_cases e : j = i
      · rw [e]; exact q
      · exact lead_good V w r (i + 1) j (by omega) h2
    · rw [if_neg q] at h2
      omega
theorem goodT_n {w : Nat} {x : Int32} (hw : w ≤ 12) (h : goodT w x = true) : ∃ i hs, i < w ∧ hs < 12 ∧ x / 12 = nI i ∧ x % 12 = nI hs := by
  unfold goodT at h
  simp only [Bool.and_eq_true, decide_eq_true_eq] at h
  obtain ⟨n, hn, rfl⟩ := nI_of h.1
  have h2 := h.2
  rw [nl12, nI_div hn (by decide), nI_ltI (by omega) (by omega)] at h2
  exact ⟨n / 12, n % 12, h2, Nat.mod_lt _ (by decide), by rw [nl12, nI_div hn (by decide)], by rw [nl12, nI_mod hn (by decide)]⟩
theorem lead_pos {V : Nat → Int32} {w i r : Nat} (h : goodT w (V i) = true) : lead V w i (r + 1) = lead V w (i + 1) r := by rw [lead, if_pos h]
theorem lead_neg {V : Nat → Int32} {w i r : Nat} (h : ¬ goodT w (V i) = true) : lead V w i (r + 1) = i := by rw [lead, if_neg h]
theorem goodT_iff {w x : Nat} (hw : w ≤ 12) (hx : x < 2 ^ 31) : goodT w (nI x) = true ↔ x / 12 < w := by
  have h1 : nI x / 12 = nI (x / 12) := by rw [nl12, nI_div hx (by decide)]
  unfold goodT
  simp only [Bool.and_eq_true, decide_eq_true_eq]
  rw [h1, nI_ltI (by omega) (by omega)]
  exact ⟨fun q => q.2, fun q => ⟨nI_pos hx, q⟩⟩
theorem callsOn_x {w n k : Nat} {h : Hp} (hk : k < 6) (hn : n ≤ 60) (hw : w ≤ 12) (e38 : h.1 38 k = nI n) (e1 : h.1 1 3 = nI w) : Ev (f_X7_callsOn (nI k) h) fun r => r = nI (lead (fun j => (h.2.1 (32 + k) j).toInt32) w 0 (min 40 n)) := by
  obtain ⟨V, hV⟩ : ∃ V : Nat → Int32, V = fun j => (h.2.1 (32 + k) j).toInt32 := ⟨_, rfl⟩
  rw [← hV]
  obtain ⟨C, hC⟩ : ∃ C, C = lead V w 0 (min 40 n) := ⟨_, rfl⟩
  rw [← hC]
  unfold f_X7_callsOn f_X6_size
  rw [rd_38 hk, e38]
  simp only [Option.bind_some]
  rw [nl40, nI_min (by decide) (by omega)]
  refine ev_call (P := Sum.elim (fun _ : Int32 => C = min 40 n) (fun r : Int32 => r = nI (C))) (ev_for (k := 0) (fun i (x : Int32) => x = nI i ∧ lead V w i (min 40 n - i) = C) (min 40 n) (fun i x hi hP => ?_) ⟨rfl, hC.symm⟩ (Nat.zero_le _) (by rw [FUe]; omega)) (fun u hu => ?_)
  · obtain ⟨rfl, p2⟩ := hP
    unfold b_X7_callsOn_16 f_X6_valueAt
    by_cases z : min 40 n ≤ i
    · rw [if_pos (nI_le z (by omega))]
      refine ev_some ?_
      rw [show min 40 n - i = 0 by omega] at p2
      show C = _
      rw [← p2]
      show i = _
      omega
    · rw [if_neg (by rw [nI_leI (by omega) (by omega)]; exact z), row_at hk]
      simp only [Option.bind_some]
      rw [rdL_n (by rw [row_sz hk]; omega) (by rw [row_sz hk]; decide)]
      simp only [Option.bind_some]
      rw [show min 40 n - i = (min 40 n - (i + 1)) + 1 by omega] at p2
      have hVi : V i = (h.2.1 (32 + k) i).toInt32 := by rw [hV]
      rw [← hVi]
      rw [e1]
      by_cases q1 : V i < 0
      · rw [if_pos q1]
        rw [lead_neg (by unfold goodT; simp [q1])] at p2
        exact ev_some (by rw [← p2]; rfl)
      · rw [if_neg q1]
        by_cases q2 : V i / 12 < nI w
        · rw [if_pos q2]
          rw [lead_pos (by unfold goodT; simp [q1, q2])] at p2
          exact ev_some ⟨by omega, by rw [nl1, nI_add], p2⟩
        · rw [if_neg q2]
          rw [lead_neg (by unfold goodT; simp [q2])] at p2
          exact ev_some (by rw [← p2]; rfl)
  · cases u with
    | inl a => exact ev_some (by rw [show C = min 40 n from hu])
    | inr a => exact ev_some hu
theorem callsOf_m {w n k : Nat} {h : Hp} (hk : k < 6) (hn : n ≤ 60) (hw : w ≤ 12) (e80 : h.1 80 k = nI n) (e1 : h.1 53 4 = nI w) : Ev (f_X8_callsOf (nI k) h) fun r => r = nI (lead (fun j => (h.2.1 81 (60 * k + j)).toInt32) w 0 (min 40 n)) := by
  obtain ⟨V, hV⟩ : ∃ V : Nat → Int32, V = fun j => (h.2.1 81 (60 * k + j)).toInt32 := ⟨_, rfl⟩
  rw [← hV]
  obtain ⟨C, hC⟩ : ∃ C, C = lead V w 0 (min 40 n) := ⟨_, rfl⟩
  rw [← hC]
  unfold f_X8_callsOf
  refine ev_call (P := fun r : Int32 => r = nI (C)) (ev_for (k := 0) (fun i (x : Int32) => x = nI i ∧ lead V w i (min 40 n - i) = C) (min 40 n) (fun i x hi hP => ?_) ⟨rfl, hC.symm⟩ (Nat.zero_le _) (by rw [FUe]; omega)) (fun u hu => ev_some hu)
  obtain ⟨rfl, p2⟩ := hP
  unfold b_X8_callsOf_2 f_X8_toldAt
  rw [rd_80 hk, e80]
  simp only [Option.bind_some]
  have fin : min 40 n ≤ i → nI i = nI (C) := fun z => by
    rw [show min 40 n - i = 0 by omega] at p2
    rw [← p2]; rfl
  by_cases z1 : n ≤ i
  · rw [if_pos (nI_le z1 (by omega))]
    exact ev_some (fin (by omega))
  · rw [if_neg (by rw [nI_leI (by omega) (by omega)]; exact z1)]
    by_cases z2 : 40 ≤ i
    · rw [if_pos (by rw [nl40]; exact nI_le z2 (by omega))]
      exact ev_some (fin (by omega))
    · rw [if_neg (by rw [nl40, nI_leI (by omega) (by omega)]; exact z2), nl60, nI_mul, nI_add, rd_81 (by omega)]
      simp only [Option.bind_some]
      rw [show min 40 n - i = (min 40 n - (i + 1)) + 1 by omega] at p2
      have hVi : V i = (h.2.1 81 (60 * k + i)).toInt32 := by rw [hV]
      rw [← hVi]
      rw [e1]
      by_cases q1 : V i < 0
      · rw [if_pos q1]
        rw [lead_neg (by unfold goodT; simp [q1])] at p2
        exact ev_some (by rw [← p2]; rfl)
      · rw [if_neg q1]
        obtain ⟨x, hx, ex⟩ := nI_of q1
        rw [ex]
        rw [nl12, nI_div hx (by decide)]
        by_cases q2 : w ≤ x / 12
        · rw [if_pos (nI_le q2 (by omega))]
          rw [lead_neg (by rw [ex, goodT_iff hw hx]; omega)] at p2
          exact ev_some (by rw [← p2]; rfl)
        · rw [if_neg (by rw [nI_leI (by omega) (by omega)]; exact q2)]
          rw [lead_pos (by rw [ex, goodT_iff hw hx]; omega)] at p2
          exact ev_some ⟨by omega, by rw [nl1, nI_add], p2⟩
