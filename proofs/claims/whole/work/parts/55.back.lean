/-- the scene that comes back: of the wrongs that were there then, as kept; of the others, as now -/
def bkS (s k : Sc) (v : Nat) : Sc := (scN k, fun i => if i < v then scD k i else scD s i, fun i => if i < v then scF k i else scF s i, scT k)
theorem bkS_ok {s k : Sc} {v w : Nat} (so : ScOk w s) (ko : ScOk v k) : ScOk w (bkS s k v) := by
  refine ⟨ko.1, fun i hi => ?_, ko.2.2⟩
  show (if i < v then scD k i else scD s i) ≤ 99
  split
  · exact ko.2.1 i (by assumption)
  · exact so.2.1 i hi
theorem back_x {s k : Sc} {v w : Nat} {h : Hp} (q : LR h) (hw : w ≤ 12) (hv : v ≤ w) (S : ScX w s 13 h) (K : ScX v k 21 h) : ∃ g, f_X5_becomeUpTo 13 21 (nI v) h = some g ∧ ScX w (bkS s k v) 13 g ∧ (∀ i, i < 6 → g.1 16 i = h.1 24 i) ∧ Kp [13, 14, 15, 16] h g := by
  obtain ⟨g, h1, h2, h3, h4, h5, h6⟩ := becomeUp_x (o := 13) (a := 21) (n := v) (h := h) (Or.inl ⟨rfl, rfl⟩) (by omega)
  refine ⟨g, h1, ⟨fun i hi => ?_, fun i hi => ?_, ?_, ?_⟩, fun i hi => ?_, ?_⟩
  · rw [h2, cpy0, if_pos hi]; exact K.1 i hi
  · show _ = nI (if i < v then scD k i else scD s i)
    rw [h3, cpy0]
    by_cases z : i < v
    · rw [if_pos z, if_pos z]; exact K.2.1 i z
    · rw [if_neg z, if_neg z]; exact S.2.1 i hi
  · rw [h5, K.2.2.1, S.2.2.1]; exact msk_mix hv hw
  · rw [h6]; exact K.2.2.2
  · rw [show (16 : Nat) = pf 13 2 from rfl, h4, cpy0, if_pos hi]; rfl
  · exact kp_in q (fr_X5_becomeUpTo (by simp [L_X5_becomeUpTo]) _ _ _ _ (by decide) (by decide) (by decide) (by decide) g h1)
