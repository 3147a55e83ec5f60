theorem ev_rd {α β : Type} {o : Option α} {v : α} {k : α → Option β} {Q : β → Prop} (e : o = some v) (h : Ev (k v) Q) : Ev (o.bind k) Q := by
  rw [e]
  exact h
theorem lg_same (a : Int64) : lg_cmp a a = 0 := by
  unfold lg_cmp
  simp
theorem rdX_n {L : Nat} {xs : Nat → Int32} {k : Nat} (hk : k < L) (hL : L ≤ 3072) : rdX L xs (nI k) = some (xs k) := by
  unfold rdX
  have h0 : ¬ nI k < 0 := by rw [nl0, nI_ltI (by omega) (by decide)]; omega
  rw [if_neg (by rw [nI_clamp (by omega)]; rintro (h | h); exact h0 h; omega), nI_clamp (by omega)]
def StpO (L : Nat) (k : Nat) (o : (Int32 × Hp) ⊕ ((Int32 × Hp) ⊕ Int32)) : Prop := Sum.elim (fun t : Int32 × Hp => k < 512 ∧ t.1 = nI (6 * (k + 1)) ∧ 6 * (k + 1) ≤ L ∧ Rel t.2) (fun r => ∃ a, r = .inl a) o
theorem step_all {L : Nat} {xs : Nat → Int32} (hL : L ≤ 3072) {k : Nat} {s : Int32 × Hp} (hs : s.1 = nI (6 * k)) (hk : 6 * k ≤ L) (R : Rel s.2) : Ev (b_L_law_18 L xs s) (StpO L k) := by
  unfold b_L_law_18
  refine ev_if (fun _ => ev_some ⟨_, rfl⟩) (fun hlt => ?_)
  have hroom : 6 * k + 6 ≤ L := by
    rw [hs] at hlt
    by_cases h6 : L < 6
    · exfalso
      have k0 : k = 0 := by omega
      subst k0
      refine hlt ?_
      match L, h6 with
      | 0, _ => decide
      | 1, _ => decide
      | 2, _ => decide
      | 3, _ => decide
      | 4, _ => decide
      | 5, _ => decide
    · rw [show Int32.ofNat L = nI L from rfl, nl6, nI_sub (by omega), nI_ltI (by omega) (by omega)] at hlt
      omega
  have e0 : rdX L xs s.1 = some (xs (6 * k)) := by rw [hs]; exact rdX_n (by omega) hL
  have e1 : rdX L xs (s.1 + 1) = some (xs (6 * k + 1)) := by rw [hs, show (1 : Int32) = nI 1 from rfl, nI_add]; exact rdX_n (by omega) hL
  have e2 : rdX L xs (s.1 + 2) = some (xs (6 * k + 2)) := by rw [hs, show (2 : Int32) = nI 2 from rfl, nI_add]; exact rdX_n (by omega) hL
  have e3 : rdX L xs (s.1 + 3) = some (xs (6 * k + 3)) := by rw [hs, show (3 : Int32) = nI 3 from rfl, nI_add]; exact rdX_n (by omega) hL
  have e4 : rdX L xs (s.1 + 4) = some (xs (6 * k + 4)) := by rw [hs, show (4 : Int32) = nI 4 from rfl, nI_add]; exact rdX_n (by omega) hL
  have e5 : rdX L xs (s.1 + 5) = some (xs (6 * k + 5)) := by rw [hs, show (5 : Int32) = nI 5 from rfl, nI_add]; exact rdX_n (by omega) hL
  have next : ∀ g : Hp, Rel g → Ev (some (.inl (s.1 + 6, g))) (StpO L k) := fun g Rg => ev_some ⟨by omega, by rw [hs, nl6, nI_add]; rfl, by omega, Rg⟩
  refine ev_rd e0 ?_
  refine ev_if (fun _ => ?_) (fun _ => ?_)
  · refine ev_rd e1 ?_
    refine ev_call (a_person _ _ R) (fun r hr => ?_)
    refine ev_rd e1 ?_
    refine ev_call hr (fun t ht => ?_)
    rw [if_pos ht.1]
    exact next _ ht.2
  refine ev_if (fun _ => ?_) (fun _ => ?_)
  · refine ev_rd e1 ?_
    refine ev_rd e2 ?_
    refine ev_call (a_wrong _ _ _ R) (fun r hr => ?_)
    refine ev_rd e1 ?_
    refine ev_rd e2 ?_
    refine ev_call hr (fun t ht => ?_)
    rw [if_pos ht.1]
    exact next _ ht.2
  refine ev_if (fun _ => ?_) (fun _ => ?_)
  · refine ev_rd e1 ?_
    refine ev_rd e2 ?_
    refine ev_rd e3 ?_
    refine ev_call (a_wrongs _ _ _ _ R) (fun r hr => ?_)
    refine ev_rd e1 ?_
    refine ev_rd e2 ?_
    refine ev_rd e3 ?_
    refine ev_call hr (fun t ht => ?_)
    rw [if_pos ht.1]
    exact next _ ht.2
  refine ev_if (fun _ => ?_) (fun _ => ?_)
  · refine ev_rd e1 ?_
    refine ev_rd e2 ?_
    refine ev_rd e3 ?_
    refine ev_call (a_mend _ _ _ _ R) (fun r hr => ?_)
    refine ev_rd e1 ?_
    refine ev_rd e2 ?_
    refine ev_rd e3 ?_
    refine ev_call hr (fun t ht => ?_)
    rw [if_pos ht.1]
    exact next _ ht.2
  refine ev_if (fun _ => ?_) (fun _ => ?_)
  · refine ev_rd e1 ?_
    refine ev_rd e2 ?_
    refine ev_call (a_of _ _ _ R) (fun r hr => ?_)
    refine ev_rd e1 ?_
    refine ev_rd e2 ?_
    refine ev_call hr (fun t ht => ?_)
    rw [if_pos ht]
    exact next _ R
  refine ev_if (fun _ => ?_) (fun _ => ?_)
  · refine ev_rd e1 ?_
    refine ev_call (a_feed _ _ R) (fun r hr => ?_)
    refine ev_rd e1 ?_
    refine ev_call hr (fun t ht => ?_)
    rw [if_pos ht.1]
    exact next _ ht.2
  refine ev_if (fun _ => ?_) (fun _ => ?_)
  · refine ev_call (a_law _ R) (fun r hr => ?_)
    refine ev_call hr (fun t ht => ?_)
    rw [if_pos ht.1]
    exact next _ ht.2
  refine ev_if (fun _ => ?_) (fun _ => ?_)
  · refine ev_rd e1 ?_
    refine ev_rd e2 ?_
    refine ev_call (a_counts _ _ _ R) (fun r hr => ?_)
    refine ev_rd e1 ?_
    refine ev_rd e2 ?_
    refine ev_call hr (fun t ht => ?_)
    rw [if_pos ht.1]
    exact next _ ht.2
  refine ev_if (fun _ => ?_) (fun _ => ?_)
  · refine ev_rd e1 ?_
    refine ev_rd e2 ?_
    refine ev_rd e3 ?_
    refine ev_call (a_later _ _ _ _ R) (fun r hr => ?_)
    refine ev_rd e1 ?_
    refine ev_rd e2 ?_
    refine ev_rd e3 ?_
    refine ev_call hr (fun t ht => ?_)
    rw [if_pos ht.1]
    exact next _ ht.2
  refine ev_if (fun _ => ?_) (fun _ => ?_)
  · refine ev_rd e1 ?_
    refine ev_rd e2 ?_
    refine ev_rd e3 ?_
    refine ev_call (a_street _ _ _ _ R) (fun r hr => ?_)
    refine ev_rd e1 ?_
    refine ev_rd e2 ?_
    refine ev_rd e3 ?_
    refine ev_call hr (fun t ht => ?_)
    rw [if_pos ht.1]
    exact next _ ht.2
  refine ev_if (fun _ => ?_) (fun _ => ?_)
  · refine ev_rd e1 ?_
    refine ev_call (a_run _ _ R) (fun r hr => ?_)
    refine ev_rd e1 ?_
    refine ev_call hr (fun t ht => ?_)
    rw [if_pos ht.1]
    exact next _ ht.2
  refine ev_if (fun _ => ?_) (fun _ => ?_)
  · refine ev_rd e1 ?_
    refine ev_call (a_fewest _ _ R) (fun r hr => ?_)
    refine ev_rd e1 ?_
    refine ev_call hr (fun t ht => ?_)
    rw [if_pos ht.1]
    exact next _ ht.2
  refine ev_if (fun _ => ?_) (fun _ => ?_)
  · refine ev_rd e1 ?_
    refine ev_call (a_all _ _ R) (fun r hr => ?_)
    refine ev_rd e1 ?_
    refine ev_call hr (fun t ht => ?_)
    rw [if_pos ht.1]
    exact next _ ht.2
  refine ev_if (fun _ => ?_) (fun _ => ?_)
  · refine ev_rd e1 ?_
    refine ev_call (a_evening _ _ R) (fun r hr => ?_)
    refine ev_rd e1 ?_
    refine ev_call hr (fun t ht => ?_)
    rw [if_pos ht.1]
    exact next _ ht.2
  refine ev_if (fun _ => ?_) (fun _ => ?_)
  · refine ev_call (a_ring _ R) (fun r hr => ?_)
    refine ev_call hr (fun t ht => ?_)
    rw [if_pos ht.1]
    exact next _ ht.2
  refine ev_if (fun _ => ?_) (fun _ => ?_)
  · refine ev_rd e1 ?_
    refine ev_call (a_owes _ _ R) (fun r hr => ?_)
    refine ev_rd e1 ?_
    refine ev_call hr (fun t ht => ?_)
    rw [if_pos ht]
    exact next _ R
  refine ev_if (fun _ => ?_) (fun _ => ?_)
  · refine ev_rd e1 ?_
    refine ev_rd e2 ?_
    refine ev_call (a_post _ _ _ R) (fun r hr => ?_)
    refine ev_rd e1 ?_
    refine ev_rd e2 ?_
    refine ev_call hr (fun t ht => ?_)
    rw [if_pos ht]
    exact next _ R
  refine ev_if (fun _ => ?_) (fun _ => ?_)
  · refine ev_rd e1 ?_
    refine ev_call (a_nearest _ _ R) (fun r hr => ?_)
    refine ev_rd e1 ?_
    refine ev_call hr (fun t ht => ?_)
    rw [if_pos ht]
    exact next _ R
  refine ev_if (fun _ => ?_) (fun _ => ?_)
  · refine ev_rd e1 ?_
    refine ev_call (a_chosen _ _ R) (fun r hr => ?_)
    refine ev_rd e1 ?_
    refine ev_call hr (fun t ht => ?_)
    rw [if_pos ht.1]
    exact next _ ht.2
  refine ev_if (fun _ => ?_) (fun _ => ?_)
  · refine ev_rd e1 ?_
    refine ev_rd e2 ?_
    refine ev_call (a_judge _ _ _ R) (fun r hr => ?_)
    refine ev_rd e1 ?_
    refine ev_rd e2 ?_
    refine ev_call hr (fun t ht => ?_)
    rw [if_pos ht.1]
    exact next _ ht.2
  refine ev_if (fun _ => ?_) (fun _ => ?_)
  · refine ev_rd e1 ?_
    refine ev_rd e2 ?_
    refine ev_rd e3 ?_
    refine ev_rd e4 ?_
    refine ev_call (a_fits _ _ _ _ _ R) (fun r hr => ?_)
    refine ev_rd e1 ?_
    refine ev_rd e2 ?_
    refine ev_rd e3 ?_
    refine ev_rd e4 ?_
    refine ev_call hr (fun t ht => ?_)
    rw [if_pos ht.1]
    exact next _ ht.2
  refine ev_if (fun _ => ?_) (fun _ => ?_)
  · refine ev_rd e1 ?_
    refine ev_rd e2 ?_
    refine ev_rd e3 ?_
    refine ev_call (a_byTurns _ _ _ _ R) (fun r hr => ?_)
    refine ev_rd e1 ?_
    refine ev_rd e2 ?_
    refine ev_rd e3 ?_
    refine ev_call hr (fun t ht => ?_)
    rw [if_pos ht.1]
    exact next _ ht.2
  refine ev_if (fun _ => ?_) (fun _ => ?_)
  · refine ev_rd e1 ?_
    refine ev_rd e2 ?_
    refine ev_rd e3 ?_
    refine ev_call (a_drawn _ _ _ _ R) (fun r hr => ?_)
    refine ev_rd e1 ?_
    refine ev_rd e2 ?_
    refine ev_rd e3 ?_
    refine ev_call hr (fun t ht => ?_)
    rw [if_pos ht.1]
    exact next _ ht.2
  refine ev_if (fun _ => ?_) (fun _ => ?_)
  · refine ev_rd e1 ?_
    refine ev_rd e2 ?_
    refine ev_call (a_call _ _ _ R) (fun r hr => ?_)
    refine ev_rd e1 ?_
    refine ev_rd e2 ?_
    refine ev_call hr (fun t ht => ?_)
    rw [if_pos ht.1]
    exact next _ ht.2
  refine ev_if (fun _ => ?_) (fun _ => ?_)
  · refine ev_rd e1 ?_
    refine ev_call (a_again _ _ R) (fun r hr => ?_)
    refine ev_rd e1 ?_
    refine ev_call hr (fun t ht => ?_)
    rw [if_pos ht.1]
    exact next _ ht.2
  refine ev_if (fun _ => ?_) (fun _ => ?_)
  · refine ev_rd e1 ?_
    refine ev_call (a_days _ _ R) (fun r hr => ?_)
    refine ev_rd e1 ?_
    refine ev_call hr (fun t ht => ?_)
    rw [if_pos ht.1]
    exact next _ ht.2
  refine ev_if (fun _ => ?_) (fun _ => ?_)
  · refine ev_rd e1 ?_
    refine ev_call (a_slam _ _ R) (fun r hr => ?_)
    refine ev_rd e1 ?_
    refine ev_call hr (fun t ht => ?_)
    rw [if_pos ht.1]
    exact next _ ht.2
  refine ev_if (fun _ => ?_) (fun _ => ?_)
  · refine ev_rd e1 ?_
    refine ev_call (a_led _ _ R) (fun r hr => ?_)
    refine ev_rd e1 ?_
    refine ev_call hr (fun t ht => ?_)
    rw [if_pos ht]
    exact next _ R
  refine ev_if (fun _ => ?_) (fun _ => ?_)
  · refine ev_call (a_image _ R) (fun r hr => ?_)
    refine ev_call hr (fun t ht => ?_)
    rw [if_pos ht.1]
    exact next _ ht.2
  refine ev_if (fun _ => ?_) (fun _ => ?_)
  · refine ev_call (a_back _ R) (fun r hr => ?_)
    refine ev_call hr (fun t ht => ?_)
    rw [if_pos ht.1]
    exact next _ ht.2
  refine ev_if (fun _ => ?_) (fun _ => ?_)
  · refine ev_call (a_undo _ R) (fun r hr => ?_)
    refine ev_call hr (fun t ht => ?_)
    rw [if_pos ht.1]
    exact next _ ht.2
  refine ev_if (fun _ => ?_) (fun _ => ?_)
  · refine ev_call (a_redo _ R) (fun r hr => ?_)
    refine ev_call hr (fun t ht => ?_)
    rw [if_pos ht.1]
    exact next _ ht.2
  refine ev_if (fun _ => ?_) (fun _ => ?_)
  · refine ev_rd e1 ?_
    refine ev_call (a_body _ _ R) (fun r hr => ?_)
    refine ev_rd e1 ?_
    refine ev_call hr (fun t ht => ?_)
    rw [if_pos ht.1]
    exact next _ ht.2
  refine ev_if (fun _ => ?_) (fun _ => ?_)
  · refine ev_rd e1 ?_
    refine ev_rd e2 ?_
    refine ev_rd e3 ?_
    refine ev_call (a_act _ _ _ _ R) (fun r hr => ?_)
    refine ev_rd e1 ?_
    refine ev_rd e2 ?_
    refine ev_rd e3 ?_
    refine ev_call hr (fun t ht => ?_)
    rw [if_pos ht.1]
    exact next _ ht.2
  refine ev_if (fun _ => ?_) (fun _ => ?_)
  · refine ev_rd e1 ?_
    refine ev_call (a_trace _ _ R) (fun r hr => ?_)
    refine ev_rd e1 ?_
    refine ev_call hr (fun t ht => ?_)
    rw [if_pos ht]
    exact next _ R
  refine ev_if (fun _ => ?_) (fun _ => ?_)
  · refine ev_rd e1 ?_
    refine ev_rd e2 ?_
    refine ev_call (a_keep _ _ _ R) (fun r hr => ?_)
    refine ev_rd e1 ?_
    refine ev_rd e2 ?_
    refine ev_call hr (fun t ht => ?_)
    rw [if_pos ht.1]
    exact next _ ht.2
  refine ev_if (fun _ => ?_) (fun _ => ?_)
  · refine ev_rd e1 ?_
    refine ev_rd e2 ?_
    refine ev_rd e3 ?_
    refine ev_call (a_row _ _ _ _ R) (fun r hr => ?_)
    refine ev_rd e1 ?_
    refine ev_rd e2 ?_
    refine ev_rd e3 ?_
    refine ev_call hr (fun t ht => ?_)
    rw [if_pos ht.1]
    exact next _ ht.2
  refine ev_if (fun _ => ?_) (fun _ => ?_)
  · refine ev_rd e1 ?_
    refine ev_rd e2 ?_
    refine ev_rd e3 ?_
    refine ev_rd e4 ?_
    refine ev_call (a_put _ _ _ _ R) (fun r hr => ?_)
    refine ev_rd e1 ?_
    refine ev_rd e2 ?_
    refine ev_rd e3 ?_
    refine ev_rd e4 ?_
    refine ev_call hr (fun t ht => ?_)
    rw [if_pos ht.1]
    exact next _ ht.2
  refine ev_if (fun _ => ?_) (fun _ => ?_)
  · refine ev_rd e1 ?_
    refine ev_rd e2 ?_
    refine ev_call (a_element _ _ _ R) (fun r hr => ?_)
    refine ev_rd e1 ?_
    refine ev_rd e2 ?_
    refine ev_call hr (fun t ht => ?_)
    rw [ht, if_pos (lg_same _)]
    exact next _ R
  refine ev_if (fun _ => ?_) (fun _ => ?_)
  · refine ev_rd e1 ?_
    refine ev_rd e2 ?_
    refine ev_rd e3 ?_
    refine ev_rd e4 ?_
    refine ev_rd e5 ?_
    refine ev_call (a_shift _ _ _ _ _ _ R) (fun r hr => ?_)
    refine ev_rd e1 ?_
    refine ev_rd e2 ?_
    refine ev_rd e3 ?_
    refine ev_rd e4 ?_
    refine ev_rd e5 ?_
    refine ev_call hr (fun t ht => ?_)
    rw [if_pos ht.1]
    exact next _ ht.2
  refine ev_if (fun _ => ?_) (fun _ => ?_)
  · refine ev_rd e1 ?_
    refine ev_rd e2 ?_
    refine ev_call (a_taken _ _ _ R) (fun r hr => ?_)
    refine ev_rd e1 ?_
    refine ev_rd e2 ?_
    refine ev_call hr (fun t ht => ?_)
    rw [if_pos ht]
    exact next _ R
  refine ev_if (fun _ => ?_) (fun _ => ?_)
  · refine ev_rd e1 ?_
    refine ev_call (a_count _ _ R) (fun r hr => ?_)
    refine ev_rd e1 ?_
    refine ev_call hr (fun t ht => ?_)
    rw [if_pos ht]
    exact next _ R
  exact next _ R
theorem rel_h00 : Rel h00 := by
  refine ⟨(0, 0, fun _ => 0, fun _ => 0, fun _ => 0, fun _ => 0, fun _ => 0), (fun _ => 0, fun _ => 0, fun _ => false, 0), ph0, 0, ⟨⟨Or.inl rfl, Or.inr rfl⟩, fun _ _ _ _ _ _ => Nat.min_le_left _ _, ⟨Nat.zero_le _, Nat.zero_le _, fun i hi => absurd hi (Nat.not_lt_zero _), fun i hi => absurd hi (Nat.not_lt_zero _)⟩, ⟨fun _ _ => Nat.zero_le _, fun i hi => absurd hi (Nat.not_lt_zero _), Nat.zero_le _⟩⟩, ⟨⟨rfl, rfl, fun i hi => absurd hi (Nat.not_lt_zero _), fun i hi => absurd hi (Nat.not_lt_zero _)⟩, ⟨rfl, rfl, fun i hi => absurd hi (Nat.not_lt_zero _), fun i hi => absurd hi (Nat.not_lt_zero _)⟩, ⟨fun i _ => rfl, fun i hi => absurd hi (Nat.not_lt_zero _), rfl, rfl⟩, ⟨fun i _ => rfl, fun i hi => absurd hi (Nat.not_lt_zero _), fun i hi => absurd hi (Nat.not_lt_zero _), rfl⟩⟩, ⟨⟨by decide, fun h hq e3 e2 e9 e10 a b c d e g hr => ?_⟩, Or.inl ⟨rfl, fun _ _ _ _ _ _ => rfl⟩⟩, fun i _ => rfl, ⟨0, Nat.zero_le _, rfl, rfl, fun i hi => absurd hi (Nat.not_lt_zero _)⟩, ⟨⟨⟨0, by decide, rfl⟩, ⟨0, by decide, rfl⟩⟩, Or.inl ⟨rfl, rfl⟩⟩, ⟨0, 0, Nat.zero_le _, Nat.le_refl _, rfl, rfl, rfl, rfl, fun i hi => absurd hi (Nat.not_lt_zero _)⟩, fun k hk => ⟨Or.inl ?_, 0, Nat.zero_le _, rfl, rfl⟩, ⟨Nat.zero_le _, rfl, rfl, fun i hi => absurd hi (Nat.not_lt_zero _), 0, Nat.zero_le _, rfl, rfl, fun i hi => absurd hi (Nat.not_lt_zero _)⟩⟩
  · refine ev_call (tell_x hq a b c d e g) (fun t ht => ?_)
    have ez : t.1 7 3 = 0 := (congrFun (ht.1.i 7 (by decide)) 3).trans e3
    have r0 : rdI t 11 0 = some (nI a) := by rw [nl0, rd_11 (by decide), ht.2 0 (by decide)]; rfl
    have r1 : rdI t 11 1 = some (nI b) := by rw [nl1, rd_11 (by decide), ht.2 1 (by decide)]; rfl
    have r5 : rdI t 11 5 = some (nI g) := by rw [nl5, rd_11 (by decide), ht.2 5 (by decide)]; rfl
    unfold f_X4_worth
    rw [ez, if_pos rfl, r0, r5, r1]
    simp only [Option.bind_some]
    rw [held_x]
    refine ev_some ?_
    obtain ⟨h1, h2, _, _, _, h6⟩ := hr
    have z := held0 a (by omega) b (by omega) g (by omega)
    rw [held_m] at z
    exact z
  · match k, hk with
    | 0, _ => exact ⟨rfl, rfl⟩
    | 1, _ => exact ⟨rfl, rfl⟩
    | 2, _ => exact ⟨rfl, rfl⟩
    | 3, _ => exact ⟨rfl, rfl⟩
    | 4, _ => exact ⟨rfl, rfl⟩
    | 5, _ => exact ⟨rfl, rfl⟩
theorem law_one (L : Nat) (xs : Nat → Int32) (hL : L ≤ 3072) : f_L_law L xs h00 = some 1 := by
  have z : Ev (f_L_law L xs h00) fun v => v = 1 := by
    unfold f_L_law
    refine ev_call (P := fun r : (Int32 × Hp) ⊕ Int32 => ∃ a, r = .inl a) ?_ (fun r hr => ?_)
    · refine ev_for (k := 0) (fun k (s : Int32 × Hp) => s.1 = nI (6 * k) ∧ 6 * k ≤ L ∧ Rel s.2) 512 (fun k s _ hs => step_all hL hs.1 hs.2.1 hs.2.2) ⟨rfl, Nat.zero_le _, rel_h00⟩ (by decide) (by rw [FUe]; decide)
    · obtain ⟨a, e⟩ := hr
      subst e
      exact ev_some rfl
  obtain ⟨v, e1, e2⟩ := z
  rw [e1, e2]
