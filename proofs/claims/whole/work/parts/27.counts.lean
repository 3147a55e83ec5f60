theorem seers_m {f : Fo} {h : Hp} (ok : FoOk f) (F : FoM f h) {i hs : Nat} (hi : i < foW f) (hh : hs < 12) : Ev (f_X8_sees (nI i) (nI hs) h) fun r => r = nI (seersN f i hs (foP f)) := by
  obtain ⟨f1, f2, f3, f4⟩ := F
  obtain ⟨k1, k2, k3, k4⟩ := ok
  unfold f_X8_sees
  refine ev_call (P := fun r => r.1 = nI (seersN f i hs (foP f))) (ev_for (k := 0) (fun k s => s.2 = nI k ∧ s.1 = nI (seersN f i hs k)) (foP f) (fun k s hk hP => ?_) ⟨rfl, rfl⟩ (Nat.zero_le _) (by rw [FUe]; omega)) (fun v hv => ev_some hv)
  obtain ⟨s1, s2⟩ := s
  obtain ⟨rfl, rfl⟩ := hP
  unfold b_X8_sees_5
  refine ev_if (fun q => ?_) (fun q => ?_)
  · rw [f1, nI_leI (by omega) (by omega)] at q
    have e : k = foP f := by omega
    subst e
    exact ev_some rfl
  · rw [f1, nI_leI (by omega) (by omega)] at q
    have hk : k < foP f := by omega
    have a1 := (f3 k hk).1
    have a2 := (f4 i hi).1
    have a3 := (f4 i hi).2.1
    have b1 := k3 k hk
    have b2 := k4 i hi
    rw [rd_55 (by omega), rd_57 (by omega), rd_58 (by omega), a1, a2, a3]
    simp only [Option.bind_some, nI_1, nI_eq (show foH f k < 2 ^ 31 by omega) (show hs < 2 ^ 31 by omega), nI_eq (show k < 2 ^ 31 by omega) (show foB f i < 2 ^ 31 by omega), nI_eq (show k < 2 ^ 31 by omega) (show foT f i < 2 ^ 31 by omega)]
    by_cases q2 : k = foB f i
    · rw [if_pos q2]
      exact ev_some ⟨hk, rfl, by show _ = nI (seersN f i hs k + _); rw [if_neg (by simp [q2])]; rfl⟩
    · by_cases q3 : k = foT f i
      · rw [if_neg q2, if_pos q3]
        exact ev_some ⟨hk, rfl, by show _ = nI (seersN f i hs k + _); rw [if_neg (by simp [q3])]; rfl⟩
      · by_cases q1 : foH f k = hs
        · rw [if_neg q2, if_neg q3, if_pos q1]
          exact ev_some ⟨hk, rfl, by show _ = nI (seersN f i hs k + _); rw [if_pos ⟨q1, q2, q3⟩]⟩
        · rw [if_neg q2, if_neg q3, if_neg q1]
          exact ev_some ⟨hk, rfl, by show _ = nI (seersN f i hs k + _); rw [if_neg (by simp [q1])]; rfl⟩
theorem ago_m {w : Nat} {s : Sc} {h : Hp} (hw : w ≤ 12) (so : ScOk w s) (S : ScM w s h) {i : Nat} (hi : i < w) : f_X8_ago (nI i) h = some (nI (scT s - scD s i)) := by
  unfold f_X8_ago
  rw [rd_60 (by omega), S.2.1 i hi]
  show some _ = _
  rw [S.2.2.2, ago_n so.2.2 (so.2.1 i hi)]
theorem held0 : ∀ a, a < 10 → ∀ b, b < 100 → ∀ g, g < 2 → mxI 0 (mnI 9 (((nI 1 + (nI a / 3)) + nI g) - (nI b / 20))) = nI (ph0 a b 0 0 0 g) := by decide +kernel
theorem count_m {f : Fo} {φ : Ph} {s : Sc} {h : Hp} (ok : FoOk f) (so : ScOk (foW f) s) (F : FoM f h) (S : ScM (foW f) s h) (L : LawM φ h) {i hs : Nat} (hi : i < foW f) (hh : hs < 12) : Ev (f_X8_countOf (nI i) (nI hs) h) fun r => r.1 = nI (cnt f φ s i hs) := by
  have hrg := cnt_rg ok so hi hh
  have k := ok
  obtain ⟨f1, f2, f3, f4⟩ := id F
  obtain ⟨k1, k2, k3, k4⟩ := k
  have a4 := f4 i hi
  have b4 := k4 i hi
  have a3 := f3 _ b4.2.1
  have b3 := k3 _ b4.2.1
  have e1 : rdI h 58 (nI i) = some (nI (foT f i)) := by rw [rd_58 (by omega), a4.2.1]
  have e3 : rdI h 55 (nI (foT f i)) = some (nI (foH f (foT f i))) := by rw [rd_55 (by omega), a3.1]
  have e4 : rdI h 59 (nI i) = some (nI (foG f i)) := by rw [rd_59 (by omega), a4.2.2]
  unfold f_X8_countOf
  rcases L with ⟨l1, l2⟩ | ⟨l1, l2⟩
  · rw [if_pos l1, e4, e1]
    simp only [Option.bind_some, e3]
    have hj : ∀ g, g < 2 → g = (if foH f (foT f i) = hs then 1 else 0) → Ev (j_X8_countOf_46 (nI i) (nI g) (1 + (nI (foG f i) / 3)) h) fun r => r.1 = nI (cnt f φ s i hs) := by
      intro g g2 hg
      unfold j_X8_countOf_46
      rw [ago_m k2 so S hi]
      refine ev_some ?_
      show mxI 0 (mnI 9 _) = _
      unfold cnt
      have h1 := so.2.2
      rw [l2, ← hg]
      exact held0 _ (by omega) _ (by omega) g g2
    refine ev_if (fun w => ?_) (fun w => ?_)
    · rw [nI_eq (by omega) (by omega)] at w
      exact hj 1 (by decide) (by rw [if_pos w])
    · rw [nI_eq (by omega) (by omega)] at w
      exact hj 0 (by decide) (by rw [if_neg w])
  · rw [if_neg l1]
    unfold f_X8_byLaw
    rw [e4]
    simp only [Option.bind_some, Option.bind_assoc]
    rw [nl0, nl1, nl2, nl3, nl4, nl5, wr_72 (by decide)]
    simp only [Option.bind_some]
    have S1 : ScM (foW f) s (stI h 72 0 (nI (foG f i))) := S
    rw [ago_m k2 so S1 hi]
    simp only [Option.bind_some]
    rw [wr_72 (by decide)]
    simp only [Option.bind_some]
    rw [rd_58 (by omega)]
    simp only [Option.bind_some, stI_at, show ((58 : Nat) = 72) = False by decide, show ((56 : Nat) = 72) = False by decide, if_false, a4.2.1]
    rw [rd_56 (by omega)]
    simp only [Option.bind_some, stI_at, show ((58 : Nat) = 72) = False by decide, show ((56 : Nat) = 72) = False by decide, if_false, a3.2]
    rw [wr_72 (by decide)]
    simp only [Option.bind_some]
    refine ev_call (seers_m (f := f) ok F hi hh) (fun v hv => ?_)
    subst hv
    rw [wr_72 (by decide)]
    simp only [Option.bind_some]
    rw [rd_54 (by omega)]
    simp only [Option.bind_some, stI_at, show ((54 : Nat) = 72) = False by decide, if_false, S.1 hs hh]
    rw [wr_72 (by decide)]
    simp only [Option.bind_some]
    rw [rd_58 (by omega)]
    simp only [Option.bind_some, stI_at, show ((58 : Nat) = 72) = False by decide, if_false, a4.2.1]
    rw [rd_55 (by omega)]
    simp only [Option.bind_some, stI_at, show ((55 : Nat) = 72) = False by decide, if_false, a3.1]
    have hj : ∀ g h', g = (if foH f (foT f i) = hs then 1 else 0) → h' = (stI (stI (stI (stI (stI h 72 0 (nI (foG f i))) 72 1 (nI (scT s - scD s i))) 72 2 (nI (foA f (foT f i)))) 72 3 (nI (seersN f i hs (foP f)))) 72 4 (nI (scN s hs))) → Ev ((j_X8_byLaw_89 (nI g) (nI 5) h').bind fun r7 => some (mxI (nI 0) (mnI 9 r7.1), r7.2)) fun r => r.1 = nI (cnt f φ s i hs) := by
      intro g h' hg hh'
      refine ev_call (l2 h' (by rw [hh']; rfl) (by rw [hh']; rfl) (by rw [hh']; rfl) (by rw [hh']; rfl) (by rw [hh']; rfl) _ _ _ _ _ g (by rw [hg]; exact hrg) (by rw [hh']; rfl) (by rw [hh']; rfl) (by rw [hh']; rfl) (by rw [hh']; rfl) (by rw [hh']; rfl)) (fun v hv => ev_some ?_)
      show _ = nI (φ _ _ _ _ _ _)
      rw [← hg]
      exact hv
    by_cases w : nI (foH f (foT f i)) = nI hs
    · rw [if_pos w]
      rw [nI_eq (by omega) (by omega)] at w
      exact hj 1 _ (by rw [if_pos w]) rfl
    · rw [if_neg w]
      rw [nI_eq (by omega) (by omega)] at w
      exact hj 0 _ (by rw [if_neg w]) rfl
