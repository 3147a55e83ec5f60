theorem becomeUp_x {o a n : Nat} {h : Hp} (ho : (o = 13 ∧ a = 21) ∨ (o = 21 ∧ a = 13) ∨ (o = 17 ∧ a = 13)) (hn : n ≤ 12) : ∃ g, f_X5_becomeUpTo o a (nI n) h = some g ∧ g.1 (pf o 0) = va_cpy (h.1 (pf a 0)) (h.1 (pf o 0)) 0 0 12 ∧ g.1 (pf o 1) = va_cpy (h.1 (pf a 1)) (h.1 (pf o 1)) 0 0 n ∧ g.1 (pf o 2) = va_cpy (h.1 (pf a 2)) (h.1 (pf o 2)) 0 0 6 ∧ g.1 o 3 = (((h.1 a 3) &&& (((1 : Int32) <<< (nI n &&& 31)) - 1)) ||| ((h.1 o 3) &&& ((((1 : Int32) <<< (nI n &&& 31)) - 1) ^^^ (-1)))) ∧ g.1 o 4 = h.1 a 4 := by
  rcases ho with ⟨rfl, rfl⟩ | ⟨rfl, rfl⟩ | ⟨rfl, rfl⟩
  all_goals
    unfold f_X5_becomeUpTo
    rw [if_pos (by decide), if_pos (by decide), nl0, nl12]
    simp only [pf, pfL, List.getD_cons_succ, List.getD_cons_zero]
    rw [cpI_n (by decide) (by decide) (by decide) (by decide) (by decide) (by decide)]
    simp only [Option.bind_some]
    rw [cpI_n (by decide) (by decide) (by simp only [sz_15, sz_19, sz_23]; omega) (by simp only [sz_15, sz_19, sz_23]; omega) (by decide) (by decide)]
    simp only [Option.bind_some]
  · rw [show lnI 16 = some (nI 6) by decide]
    simp only [Option.bind_some]
    rw [cpI_n (by decide) (by decide) (by decide) (by decide) (by decide) (by decide)]
    exact ⟨_, rfl, rfl, rfl, rfl, rfl, rfl⟩
  · rw [show lnI 24 = some (nI 6) by decide]
    simp only [Option.bind_some]
    rw [cpI_n (by decide) (by decide) (by decide) (by decide) (by decide) (by decide)]
    exact ⟨_, rfl, rfl, rfl, rfl, rfl, rfl⟩
  · rw [show lnI 20 = some (nI 6) by decide]
    simp only [Option.bind_some]
    rw [cpI_n (by decide) (by decide) (by decide) (by decide) (by decide) (by decide)]
    exact ⟨_, rfl, rfl, rfl, rfl, rfl, rfl⟩
/-- the class thinks: the thought scene becomes the scene now -/
theorem become_x {w : Nat} {s : Sc} {h : Hp} {o : Nat} (ho : o = 21 ∨ o = 17) (q : LR h) (hw : w ≤ 12) (S : ScX w s 13 h) (hk : Thk o h) : ∃ g, f_X5_become o 13 h = some g ∧ ScX w s o g ∧ (∀ i, i < 6 → g.1 (pf o 2) i = h.1 16 i) ∧ Kp [o, pf o 0, pf o 1, pf o 2] h g := by
  obtain ⟨g, h1, h2, h3, h4, h5, h6⟩ := becomeUp_x (o := o) (a := 13) (n := 12) (h := h) (by omega) (Nat.le_refl _)
  have hs : sh o = (0, 5) := by rcases ho with rfl | rfl <;> decide
  have e : f_X5_become o 13 h = some g := by
    unfold f_X5_become
    rw [if_pos hs, if_pos (by decide), nl12, h1]; rfl
  refine ⟨g, e, ⟨fun i hi => ?_, fun i hi => ?_, ?_, ?_⟩, fun i hi => ?_, ?_⟩
  · rw [h2, cpy0, if_pos hi]; exact S.1 i hi
  · rw [h3, cpy0, if_pos (by omega)]; exact S.2.1 i hi
  · rw [h5, S.2.2.1, low_n 12 (by decide), and_n (by have := msk_lt12 (b := scF s) hw; omega)]
    have hm : msk (scF s) w &&& (2 ^ 12 - 1) = msk (scF s) w := by
      rw [Nat.and_two_pow_sub_one_eq_mod]
      exact Nat.mod_eq_of_lt (msk_lt12 hw)
    obtain ⟨k, k1, k2⟩ := hk
    rw [hm, k2, hi_n (by decide) k1, or_n, Nat.mod_eq_of_lt (show k < 2 ^ 12 from k1), Nat.sub_self, Nat.or_zero]
  · rw [h6]; exact S.2.2.2
  · rw [h4, cpy0, if_pos hi]; rfl
  · rcases ho with rfl | rfl
    · exact kp_in q (fr_X5_become (by simp [L_X5_become]) _ _ _ (by decide) (by decide) (by decide) (by decide) g e)
    · exact kp_in q (fr_X5_become (by simp [L_X5_become]) _ _ _ (by decide) (by decide) (by decide) (by decide) g e)
