/-- a wrong is added, class and reference -/
def addF (f : Fo) (a c g : Nat) : Fo := (foP f, foW f + 1, foH f, foA f, upN (foB f) (foW f) a, upN (foT f) (foW f) c, upN (foG f) (foW f) g)
def addS (w : Nat) (s : Sc) : Sc := (scN s, upN (scD s) w (scT s), upN (scF s) w false, scT s)
theorem addF_ok {f : Fo} (ok : FoOk f) (hw : foW f < 12) {a c g : Nat} (ha : a < foP f) (hc : c < foP f) (h1 : 1 ≤ g) (h9 : g ≤ 9) : FoOk (addF f a c g) := by
  refine ⟨ok.1, hw, ok.2.2.1, fun i hi => ?_⟩
  show upN _ _ _ _ < foP f ∧ upN _ _ _ _ < foP f ∧ 1 ≤ upN _ _ _ _ ∧ upN _ _ _ _ ≤ 9
  rw [upN_at, upN_at, upN_at]
  by_cases e : i = foW f
  · rw [if_pos e, if_pos e, if_pos e]; exact ⟨ha, hc, h1, h9⟩
  · rw [if_neg e, if_neg e, if_neg e]; exact ok.2.2.2 i (by have : i < foW f + 1 := hi; omega)
theorem addS_ok {w : Nat} {s : Sc} (so : ScOk w s) : ScOk (w + 1) (addS w s) := by
  refine ⟨so.1, fun i hi => ?_, so.2.2⟩
  show upN _ _ _ _ ≤ 99
  rw [upN_at]
  by_cases e : i = w
  · rw [if_pos e]; exact so.2.2
  · rw [if_neg e]; exact so.2.1 i (by omega)
theorem msk_add {b : Nat → Bool} {w : Nat} : msk (upN b w false) (w + 1) = msk b w := by
  show msk (upN b w false) w ||| (if upN b w false w then 2 ^ w else 0) = msk b w
  rw [show upN b w false w = false from if_pos rfl, if_neg (by decide), Nat.or_zero]
  exact msk_same fun i hi => if_neg (by omega)
theorem addX {f : Fo} {s : Sc} {h : Hp} (q : LR h) (F : FoX f h) (S : ScX (foW f) s 13 h) (hw : foW f < 12) (a c g : Nat) : ∃ h1, f_X7_addWrong (nI a) (nI c) (nI g) h = some (nI (foW f), h1) ∧ FoX (addF f a c g) h1 ∧ ScX (foW f + 1) (addS (foW f) s) 13 h1 ∧ Kp [1, 4, 5, 6, 15] h h1 := by
  have e : f_X7_addWrong (nI a) (nI c) (nI g) h = some (nI (foW f), stI (stI (stI (stI (stI h 4 (foW f) (nI a)) 5 (foW f) (nI c)) 6 (foW f) (nI g)) 1 3 (nI (foW f + 1))) 15 (foW f) (nI (scT s))) := by
    unfold f_X7_addWrong f_X3_offend
    rw [F.2.1, wr_4 hw]
    simp only [Option.bind_some]
    rw [show (stI h 4 (foW f) (nI a)).1 1 3 = nI (foW f) from F.2.1, wr_5 hw]
    simp only [Option.bind_some]
    rw [show (stI (stI h 4 (foW f) (nI a)) 5 (foW f) (nI c)).1 1 3 = nI (foW f) from F.2.1, wr_6 hw]
    simp only [Option.bind_some, lt]
    rw [show (stI (stI (stI h 4 (foW f) (nI a)) 5 (foW f) (nI c)) 6 (foW f) (nI g)).1 1 3 = nI (foW f) from F.2.1, nI_1]
    rw [show (stI (stI (stI (stI h 4 (foW f) (nI a)) 5 (foW f) (nI c)) 6 (foW f) (nI g)) 1 3 (nI (foW f + 1))).1 13 4 = nI (scT s) from S.2.2.2, wr_15 hw]
    rfl
  refine ⟨_, e, ⟨F.1, rfl, F.2.2.1, fun i hi => ?_⟩, ⟨S.1, fun i hi => ?_, ?_, S.2.2.2⟩, (((((Kp.refl q).st (by decide)).st (by decide)).st (by decide)).st (by decide)).st (by decide)⟩
  · show _ = nI (upN _ _ _ _) ∧ _ = nI (upN _ _ _ _) ∧ _ = nI (upN _ _ _ _)
    rw [upN_at, upN_at, upN_at]
    by_cases e : i = foW f
    · simp [stI_at, e]
    · have := F.2.2.2 i (by have : i < foW f + 1 := hi; omega)
      simp [stI_at, e, this]
  · show _ = nI (upN _ _ _ _)
    rw [upN_at, stI_at, if_pos (show pf 13 1 = 15 from rfl)]
    by_cases e : i = foW f
    · rw [if_pos e, if_pos e]
    · rw [if_neg e, if_neg e]; exact S.2.1 i (by omega)
  · show _ = nI (msk (upN _ _ _) _)
    rw [msk_add]
    exact S.2.2.1
theorem addM {f : Fo} {s : Sc} {h : Hp} (q : LR h) (F : FoM f h) (S : ScM (foW f) s h) (hw : foW f < 12) (a c g : Nat) : ∃ h1, f_X8_newWrong (nI a) (nI c) (nI g) h = some (nI (foW f), h1) ∧ FoM (addF f a c g) h1 ∧ ScM (foW f + 1) (addS (foW f) s) h1 ∧ Kp [53, 57, 58, 59, 60, 61] h h1 ∧ ∀ j, j ≠ 4 → h1.1 53 j = h.1 53 j := by
  have e : f_X8_newWrong (nI a) (nI c) (nI g) h = some (nI (foW f), stI (stI (stI (stI (stI (stI h 57 (foW f) (nI a)) 58 (foW f) (nI c)) 59 (foW f) (nI g)) 60 (foW f) (nI (scT s))) 61 (foW f) 0) 53 4 (nI (foW f + 1))) := by
    unfold f_X8_newWrong
    rw [F.2.1, wr_57 hw]
    simp only [Option.bind_some]
    rw [show (stI h 57 (foW f) (nI a)).1 53 4 = nI (foW f) from F.2.1, wr_58 hw]
    simp only [Option.bind_some]
    rw [show (stI (stI h 57 (foW f) (nI a)) 58 (foW f) (nI c)).1 53 4 = nI (foW f) from F.2.1, wr_59 hw]
    simp only [Option.bind_some]
    rw [show (stI (stI (stI h 57 (foW f) (nI a)) 58 (foW f) (nI c)) 59 (foW f) (nI g)).1 53 4 = nI (foW f) from F.2.1, show (stI (stI (stI h 57 (foW f) (nI a)) 58 (foW f) (nI c)) 59 (foW f) (nI g)).1 53 10 = nI (scT s) from S.2.2.2, wr_60 hw]
    simp only [Option.bind_some]
    rw [show (stI (stI (stI (stI h 57 (foW f) (nI a)) 58 (foW f) (nI c)) 59 (foW f) (nI g)) 60 (foW f) (nI (scT s))).1 53 4 = nI (foW f) from F.2.1, wr_61 hw]
    simp only [Option.bind_some, lt]
    rw [show (stI (stI (stI (stI (stI h 57 (foW f) (nI a)) 58 (foW f) (nI c)) 59 (foW f) (nI g)) 60 (foW f) (nI (scT s))) 61 (foW f) 0).1 53 4 = nI (foW f) from F.2.1, nI_1]
  refine ⟨_, e, ⟨F.1, rfl, F.2.2.1, fun i hi => ?_⟩, ⟨S.1, fun i hi => ?_, fun i hi => ?_, S.2.2.2⟩, ((((((Kp.refl q).st (by decide)).st (by decide)).st (by decide)).st (by decide)).st (by decide)).st (by decide), fun j hj => by simp [stI_at, hj]⟩
  · show _ = nI (upN _ _ _ _) ∧ _ = nI (upN _ _ _ _) ∧ _ = nI (upN _ _ _ _)
    rw [upN_at, upN_at, upN_at]
    by_cases e : i = foW f
    · simp [stI_at, e]
    · have := F.2.2.2 i (by have : i < foW f + 1 := hi; omega)
      simp [stI_at, e, this]
  · show _ = nI (upN _ _ _ _)
    rw [upN_at]
    by_cases e : i = foW f
    · simp [stI_at, e]
    · have := S.2.1 i (by omega)
      simp [stI_at, e, this]
  · show _ = nI (bI (upN _ _ _ _))
    rw [upN_at]
    by_cases e : i = foW f
    · simp [stI_at, e]; rfl
    · have := S.2.2.1 i (by omega)
      simp [stI_at, e, this]
/-- is a wrong so? -/
theorem so_c {f : Fo} {h : Hp} (ok : FoOk f) (F : FoX f h) (a c g : Int32) : (∃ i j k, i < foP f ∧ j < foP f ∧ 1 ≤ k ∧ k ≤ 9 ∧ a = nI i ∧ c = nI j ∧ g = nI k ∧ f_X3_isSo a c g h = some 1 ∧ ∀ h', FoM f h' → f_X8_isSuch a c g h' = some 1) ∨ (f_X3_isSo a c g h = some 0 ∧ ∀ h', FoM f h' → f_X8_isSuch a c g h' = some 0) := by
  have n10 : ¬ (1 : Int32) = 0 := by decide
  have one : ∀ a, (∃ n, n < foP f ∧ a = nI n ∧ f_X3_isOne a h = some 1 ∧ ∀ h', FoM f h' → f_X8_isOne a h' = some 1) ∨ (f_X3_isOne a h = some 0 ∧ ∀ h', FoM f h' → f_X8_isOne a h' = some 0) := by
    intro a
    have hp := ok.1
    rcases i32_split a with ⟨n, hn, rfl⟩ | ha
    · by_cases q : n < foP f
      · left
        refine ⟨n, q, rfl, ?_, fun h' G => ?_⟩
        · unfold f_X3_isOne
          rw [F.1, if_neg (nI_pos hn), if_neg (by rw [nI_leI (by omega) hn]; omega)]
        · unfold f_X8_isOne
          rw [G.1, within_p1 q (by omega)]; rfl
      · right
        refine ⟨?_, fun h' G => ?_⟩
        · unfold f_X3_isOne
          rw [F.1, if_neg (nI_pos hn), if_pos (by rw [nI_leI (by omega) hn]; omega)]
        · unfold f_X8_isOne
          rw [G.1, within_p0 (by omega) hn]; rfl
    · right
      refine ⟨by unfold f_X3_isOne; rw [if_pos ha], fun h' G => ?_⟩
      unfold f_X8_isOne
      rw [nl0, within_neg ha (by decide)]; rfl
  unfold f_X3_isSo f_X8_isSuch
  rcases one a with ⟨i, hi, rfl, e1, e2⟩ | ⟨e1, e2⟩
  · rcases one c with ⟨j, hj, rfl, e3, e4⟩ | ⟨e3, e4⟩
    · rw [e1, e3]
      simp only [Option.bind_some, if_neg n10]
      by_cases z : nI i = nI j
      · right
        refine ⟨by rw [if_pos z], fun h' G => ?_⟩
        rw [e2 h' G, e4 h' G]
        simp only [Option.bind_some, if_neg n10]
        rw [if_pos z]
      · rcases i32_split g with ⟨k, hk, rfl⟩ | ha
        · by_cases q : 1 ≤ k ∧ k ≤ 9
          · left
            refine ⟨i, j, k, hi, hj, q.1, q.2, rfl, rfl, rfl, ?_, fun h' G => ?_⟩
            · rw [if_neg z, if_neg (by rw [nl1]; exact nI_nlt q.1 hk), if_neg (by rw [nl9]; exact nI_nlt q.2 (by decide))]
            · rw [e2 h' G, e4 h' G]
              simp only [Option.bind_some, if_neg n10]
              rw [if_neg z, nl1, nl9, within_in q.1 q.2 (by decide)]
              simp only [Option.bind_some, if_neg n10]
          · right
            refine ⟨?_, fun h' G => ?_⟩
            · rw [if_neg z]
              by_cases q1 : k < 1
              · rw [if_pos (by rw [nl1]; exact nI_lt q1 (by decide))]
              · rw [if_neg (by rw [nl1]; exact nI_nlt (by omega) hk), if_pos (by rw [nl9]; exact nI_lt (by omega) hk)]
            · rw [e2 h' G, e4 h' G]
              simp only [Option.bind_some, if_neg n10]
              rw [if_neg z, nl1, nl9, within_out (by omega) hk (by decide) (by decide)]
              rfl
        · right
          refine ⟨?_, fun h' G => ?_⟩
          · rw [if_neg z, if_pos (by rw [nl1]; exact neg_lt ha (by decide))]
          · rw [e2 h' G, e4 h' G]
            simp only [Option.bind_some, if_neg n10]
            rw [if_neg z, nl1, within_neg ha (by decide)]
            rfl
    · right
      rw [e1, e3]
      refine ⟨rfl, fun h' G => ?_⟩
      rw [e2 h' G, e4 h' G]
      rfl
  · right
    rw [e1]
    refine ⟨rfl, fun h' G => ?_⟩
    rw [e2 h' G]
    rfl
