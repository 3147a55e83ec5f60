theorem seers_lt (f : Fo) (i hs : Nat) : ∀ n, seersN f i hs n ≤ n
  | 0 => Nat.le_refl 0
  | n + 1 => by
    have := seers_lt f i hs n
    show seersN f i hs n + _ ≤ n + 1
    split <;> omega
theorem seers_x {f : Fo} {h : Hp} (ok : FoOk f) (F : FoX f h) {i hs : Nat} (hi : i < foW f) (hh : hs < 12) : Ev (f_X3_seers (nI i) (nI hs) h) fun r => r = nI (seersN f i hs (foP f)) := by
  obtain ⟨f1, f2, f3, f4⟩ := F
  obtain ⟨k1, k2, k3, k4⟩ := ok
  unfold f_X3_seers
  refine ev_call (P := fun r => r.1 = nI (seersN f i hs (foP f))) (ev_for (k := 0) (fun k s => s.2 = nI k ∧ s.1 = nI (seersN f i hs k)) (foP f) (fun k s hk hP => ?_) ⟨rfl, rfl⟩ (Nat.zero_le _) (by rw [FUe]; omega)) (fun v hv => ev_some hv)
  obtain ⟨s1, s2⟩ := s
  obtain ⟨rfl, rfl⟩ := hP
  unfold b_X3_seers_5
  refine ev_if (fun q => ?_) (fun q => ?_)
  · rw [f1, nI_leI (by omega) (by omega)] at q
    have e : k = foP f := by omega
    subst e
    exact ev_some rfl
  · rw [f1, nI_leI (by omega) (by omega)] at q
    have hk : k < foP f := by omega
    have a1 := (f3 k hk).1
    have a2 := (f4 i hi).1
    have a3 := (f4 i hi).2.1
    have b1 := k3 k hk
    have b2 := k4 i hi
    rw [rd_2 (by omega), rd_4 (by omega), rd_5 (by omega), a1, a2, a3]
    simp only [Option.bind_some, nI_1, nI_eq (show foH f k < 2 ^ 31 by omega) (show hs < 2 ^ 31 by omega), nI_eq (show k < 2 ^ 31 by omega) (show foB f i < 2 ^ 31 by omega), nI_eq (show k < 2 ^ 31 by omega) (show foT f i < 2 ^ 31 by omega)]
    by_cases q1 : foH f k = hs
    · by_cases q2 : k = foB f i
      · rw [if_pos q1, if_pos q2]
        exact ev_some ⟨hk, rfl, by show _ = nI (seersN f i hs k + _); rw [if_neg (by simp [q2])]; rfl⟩
      · by_cases q3 : k = foT f i
        · rw [if_pos q1, if_neg q2, if_pos q3]
          exact ev_some ⟨hk, rfl, by show _ = nI (seersN f i hs k + _); rw [if_neg (by simp [q3])]; rfl⟩
        · rw [if_pos q1, if_neg q2, if_neg q3]
          exact ev_some ⟨hk, rfl, by show _ = nI (seersN f i hs k + _); rw [if_pos ⟨q1, q2, q3⟩]⟩
    · rw [if_neg q1]
      exact ev_some ⟨hk, rfl, by show _ = nI (seersN f i hs k + _); rw [if_neg (by simp [q1])]; rfl⟩
theorem cnt_rg {f : Fo} {s : Sc} (ok : FoOk f) (so : ScOk (foW f) s) {i hs : Nat} (hi : i < foW f) (hh : hs < 12) : RgOk (foG f i) (scT s - scD s i) (foA f (foT f i)) (seersN f i hs (foP f)) (scN s hs) (if foH f (foT f i) = hs then 1 else 0) := by
  have b2 := ok.2.2.2 i hi
  have b1 := ok.2.2.1 _ b2.2.1
  have b3 := seers_lt f i hs (foP f)
  have b4 := ok.1
  have b5 := so.1 hs hh
  have b6 := so.2.2
  exact ⟨by omega, by omega, b1.2, by omega, b5, by split <;> decide⟩
theorem ago_n {t d : Nat} (ht : t ≤ 99) (hd : d ≤ 99) : mxI 0 (nI t - nI d) = nI (t - d) := by
  have : ∀ t, t < 100 → ∀ d, d < 100 → mxI 0 (nI t - nI d) = nI (t - d) := by decide +kernel
  exact this t (by omega) d (by omega)
theorem ev_assoc {α β γ : Type} {x : Option α} {f : α → Option β} {g : β → Option γ} {Q : γ → Prop} (E : Ev ((x.bind f).bind g) Q) : Ev (x.bind fun y => (f y).bind g) Q := by
  cases x with
  | none => exact E
  | some a => exact E
theorem worth_x {f : Fo} {φ : Ph} {s : Sc} {o : Nat} {h : Hp} (ho : OkO o) (q : LR h) (ok : FoOk f) (so : ScOk (foW f) s) (F : FoX f h) (S : ScX (foW f) s o h) (L : LawX φ h) {i hs : Nat} (hi : i < foW f) (hh : hs < 12) : Ev (f_X7_worth o (nI i) (nI hs) h) fun r => r.1 = nI (cnt f φ s i hs) := by
  have hs1 := seers_x ok F hi hh
  have hrg := cnt_rg ok so hi hh
  obtain ⟨f1, f2, f3, f4⟩ := F
  obtain ⟨k1, k2, k3, k4⟩ := ok
  obtain ⟨s1, s2, s3, s4⟩ := S
  have a4 := f4 i hi
  have b4 := k4 i hi
  have a3 := f3 _ b4.2.1
  have b3 := k3 _ b4.2.1
  have e1 : rdI h 5 (nI i) = some (nI (foT f i)) := by rw [rd_5 (by omega), a4.2.1]
  have e2 : rdI h (pf o 1) (nI i) = some (nI (scD s i)) := by rw [rdI_n (by rw [ho.2.2.1]; omega) (by rw [ho.2.2.1]; omega), s2 i hi]
  have e3 : rdI h 2 (nI (foT f i)) = some (nI (foH f (foT f i))) := by rw [rd_2 (by omega), a3.1]
  have e4 : rdI h 6 (nI i) = some (nI (foG f i)) := by rw [rd_6 (by omega), a4.2.2]
  have e5 : rdI h 3 (nI (foT f i)) = some (nI (foA f (foT f i))) := by rw [rd_3 (by omega), a3.2]
  have e6 : rdI h (pf o 0) (nI hs) = some (nI (scN s hs)) := by rw [rdI_n (by rw [ho.2.1]; omega) (by rw [ho.2.1]; omega), s1 hs hh]
  have hj : ∀ g, g = (if foH f (foT f i) = hs then 1 else 0) → Ev (j_X7_worth_47 o (nI i) (nI hs) (nI (foT f i)) (nI (scT s - scD s i)) (nI g) h) fun r => r.1 = nI (cnt f φ s i hs) := by
    intro g hg
    unfold j_X7_worth_47
    rw [e4, e5]
    simp only [Option.bind_some]
    refine ev_call hs1 (fun v hv => ?_)
    subst hv
    rw [e6]
    simp only [Option.bind_some]
    refine ev_assoc (f := fun t => f_X4_worth t) (ev_call (L.2 h q rfl rfl (Or.inr rfl) (Or.inr rfl) _ _ _ _ _ _ (by rw [hg]; exact hrg)) (fun v hv => ev_some ?_))
    rw [hg] at hv
    exact hv
  unfold f_X7_worth
  rw [if_pos ho.1, e1]
  simp only [Option.bind_some, e2, e3, s4, ago_n so.2.2 (so.2.1 i hi)]
  refine ev_if (fun w => ?_) (fun w => ?_)
  · rw [nI_eq (by omega) (by omega)] at w
    exact hj 1 (by rw [if_pos w])
  · rw [nI_eq (by omega) (by omega)] at w
    exact hj 0 (by rw [if_neg w])
