/-! the law -/
theorem lns_ne {T : Nat → Int32} {n : Nat} : ∀ (k p : Nat) (acc : List Ln), (lnsP T n k p acc).1 = true → (lnsP T n k p acc).2.2 ≠ []
  | 0, _, _, h => by cases h
  | k + 1, p, acc, h => by
    rw [lnsP_succ] at h ⊢
    by_cases e : (lnP T n p).1 = true
    · rw [if_pos e] at h ⊢
      unfold aftP at h ⊢
      by_cases e2 : n ≤ (lnP T n p).2.1
      · rw [if_pos e2]; exact fun z => List.cons_ne_nil _ _ (List.append_eq_nil_iff.mp z).2
      · rw [if_neg e2] at h ⊢
        by_cases e3 : sgn T n (lnP T n p).2.1 = 59
        · rw [if_pos e3] at h ⊢; exact lns_ne k _ _ h
        · rw [if_neg e3] at h; cases h
    · rw [if_neg e] at h; cases h
theorem enact_x {T : Nat → Int32} {n : Nat} {φ : Ph} {h : Hp} (ok : TapeOk T n) (q : LR h) (h0 : h.1 7 0 = nI n) (h8 : ∀ i, i < n → h.1 8 i = T i) (LX : LawX φ h) : Ev (f_X4_enact h) fun t => t.1 = (if (lnsP T n 120 0 []).1 then 1 else -100 - nI (lnsP T n 120 0 []).2.1) ∧ Kp [7, 9, 10] h t.2 ∧ t.2.1 7 0 = nI 0 ∧ LawX (if (lnsP T n 120 0 []).1 then phL (lnsP T n 120 0 []).2.2 else φ) t.2 := by
  have hn := ok.1
  obtain ⟨q2, q4⟩ := id q
  obtain ⟨l1, l2⟩ := id LX
  unfold f_X4_enact
  simp only [lt]
  have K2 : Kp [7] h (stI (stI h 7 6 0) 7 5 0) := ((Kp.refl q).st (by decide)).st (by decide)
  have j2 : ∀ j, j ≠ 5 → j ≠ 6 → (stI (stI h 7 6 0) 7 5 0).1 7 j = h.1 7 j := fun j h5 h6 => by rw [stI_at, if_pos rfl, if_neg h5, stI_at, if_pos rfl, if_neg h6]
  have C2 : CT T n (h.2.2 7 4) (stI (stI h 7 6 0) 7 5 0) := ⟨by rw [j2 0 (by decide) (by decide)]; exact h0, fun i hi => by rw [K2.i 8 (by decide)]; exact h8 i hi, q, rfl, q4⟩
  have D2 : CD (h.2.2 7 4) (stI (stI h 7 6 0) 7 5 0) [] := ⟨by rw [stI_at, if_pos rfl, if_pos rfl]; rfl, fun i hi => absurd hi (Nat.not_lt_zero _)⟩
  have e6 : (stI (stI h 7 6 0) 7 5 0).1 7 6 = nI 0 := by rw [stI_at, if_pos rfl, if_neg (by decide), stI_at, if_pos rfl, if_pos rfl]; rfl
  have r2 : (stI (stI h 7 6 0) 7 5 0).2.2 = h.2.2 := rfl
  generalize stI (stI h 7 6 0) 7 5 0 = h2 at K2 j2 C2 D2 e6 r2
  refine ev_call (lines_x ok C2 e6 D2) (fun t ht => ?_)
  obtain ⟨t1, t2, t3, t4⟩ := ht
  have okL := (lns_ok (T := T) (n := n) 120 0 [] (by omega) (fun l hl => by cases hl)).2
  have neL := lns_ne (T := T) (n := n) 120 0 []
  generalize lnsP T n 120 0 [] = Q at t1 t3 t4 okL neL
  obtain ⟨F1, F2, F3, F4⟩ := t2
  have rt : t.2.2.2 7 = h.2.2 7 := by rw [F3, r2]
  have Kt : Kp [7, 9, 10] h t.2 := (K2.mono (by decide)).trans ⟨F1.1, fun k hk => F1.2 k (by
    have : k ≠ 7 ∧ k ≠ 9 ∧ k ≠ 10 := by simp at hk; omega
    rcases q4 with z | z <;> rw [z] <;> simp <;> omega)⟩
  by_cases e : Q.1 = true
  · rw [if_pos e] at t1
    obtain ⟨D, hl⟩ := t4 e
    have a4 : (stI t.2 7 0 0).2.2 7 4 = h.2.2 7 4 := by show t.2.2.2 7 4 = _; rw [rt]
    have a2 : (stI t.2 7 0 0).2.2 7 2 = h.2.2 7 2 := by show t.2.2.2 7 2 = _; rw [rt]
    rw [t1, if_neg (by decide), a4, a2, if_pos e]
    have u5 : (upR (stI t.2 7 0 0) 7 2 (h.2.2 7 4)).1 7 5 = nI (Q.2.2.flatMap cX).length := by
      show (stI t.2 7 0 0).1 7 5 = _
      rw [stI_at, if_pos rfl, if_neg (by decide)]
      exact D.1
    rw [u5]
    have g2 : (upR (stI (upR (stI t.2 7 0 0) 7 2 (h.2.2 7 4)) 7 3 (nI (Q.2.2.flatMap cX).length)) 7 4 (h.2.2 7 2)).2.2 7 2 = h.2.2 7 4 := rfl
    have g4 : (upR (stI (upR (stI t.2 7 0 0) 7 2 (h.2.2 7 4)) 7 3 (nI (Q.2.2.flatMap cX).length)) 7 4 (h.2.2 7 2)).2.2 7 4 = h.2.2 7 2 := rfl
    have gd : ∀ i, (upR (stI (upR (stI t.2 7 0 0) 7 2 (h.2.2 7 4)) 7 3 (nI (Q.2.2.flatMap cX).length)) 7 4 (h.2.2 7 2)).1 (h.2.2 7 4) i = t.2.1 (h.2.2 7 4) i := by
      intro i
      show (stI (upR (stI t.2 7 0 0) 7 2 (h.2.2 7 4)) 7 3 (nI (Q.2.2.flatMap cX).length)).1 (h.2.2 7 4) i = _
      have n7 : h.2.2 7 4 ≠ 7 := by rcases q4 with z | z <;> rw [z] <;> decide
      rw [stI_at, if_neg n7]
      show (stI t.2 7 0 0).1 (h.2.2 7 4) i = _
      rw [stI_at, if_neg n7]
    have K5 : Kp [7, 9, 10] h (upR (stI (upR (stI t.2 7 0 0) 7 2 (h.2.2 7 4)) 7 3 (nI (Q.2.2.flatMap cX).length)) 7 4 (h.2.2 7 2)) := by
      refine ⟨⟨?_, ?_⟩, fun k hk => ?_⟩
      · rw [g2]; exact q4
      · rw [g4]; exact q2
      · obtain ⟨z1, z2, z3⟩ := Kt.2 k hk
        have hk7 : k ≠ 7 := by simp at hk; omega
        refine ⟨?_, z2, ?_⟩
        · show (stI (upR (stI t.2 7 0 0) 7 2 (h.2.2 7 4)) 7 3 (nI (Q.2.2.flatMap cX).length)).1 k = _
          funext i
          rw [stI_at, if_neg hk7]
          show (stI t.2 7 0 0).1 k i = _
          rw [stI_at, if_neg hk7, z1]
        · funext i
          show (if k = 7 ∧ i = 4 then h.2.2 7 2 else if k = 7 ∧ i = 2 then h.2.2 7 4 else t.2.2.2 k i) = _
          rw [if_neg (fun z => hk7 z.1), if_neg (fun z => hk7 z.1), z3]
    have b0 : (upR (stI (upR (stI t.2 7 0 0) 7 2 (h.2.2 7 4)) 7 3 (nI (Q.2.2.flatMap cX).length)) 7 4 (h.2.2 7 2)).1 7 0 = nI 0 := rfl
    have b3 : (upR (stI (upR (stI t.2 7 0 0) 7 2 (h.2.2 7 4)) 7 3 (nI (Q.2.2.flatMap cX).length)) 7 4 (h.2.2 7 2)).1 7 3 = nI (Q.2.2.flatMap cX).length := rfl
    generalize upR (stI (upR (stI t.2 7 0 0) 7 2 (h.2.2 7 4)) 7 3 (nI (Q.2.2.flatMap cX).length)) 7 4 (h.2.2 7 2) = g at g2 g4 gd K5 b0 b3
    refine ev_some ⟨rfl, K5, b0, ?_⟩
    rw [if_pos e]
    refine lawX_new K5.1 (by rw [g2, g4]; exact fun z => l1 z.symm) okL (neL e) hl b3 (fun i hi => ?_)
    rw [g2, gd i]
    exact D.2 i hi
  · rw [if_neg e] at t1
    rw [t1, if_pos rfl, if_neg e]
    have e6' : (stI t.2 7 0 0).1 7 6 = nI Q.2.1 := by rw [stI_at, if_pos rfl, if_neg (by decide)]; exact t3
    rw [e6']
    refine ev_some ⟨rfl, Kt.st (by decide), rfl, ?_⟩
    rw [if_neg e]
    have s3 : (stI t.2 7 0 0).1 7 3 = h.1 7 3 := by rw [stI_at, if_pos rfl, if_neg (by decide), F2 3 (by decide) (by decide), j2 3 (by decide) (by decide)]
    refine ⟨by show t.2.2.2 7 2 ≠ t.2.2.2 7 4; rw [rt]; exact l1, fun g' q' e3 e2 e9 e10 a b c d e' g hr => ?_⟩
    have e2' : g'.2.2 7 2 = h.2.2 7 2 := by rw [e2]; show t.2.2.2 7 2 = _; rw [rt]
    have rr : (stI t.2 7 0 0).2.2 7 2 = h.2.2 7 2 := by show t.2.2.2 7 2 = _; rw [rt]
    rw [rr] at e9 e10
    refine l2 g' q' (by rw [e3, s3]) e2' ?_ ?_ a b c d e' g hr
    · rcases q2 with z | z
      · refine Or.inr ?_
        rcases e9 with e9 | e9
        · rw [z] at e9; exact absurd e9 (by decide)
        · have z4 : h.2.2 7 4 = 10 := by rcases q4 with w | w; exact absurd (z.trans w.symm) l1; exact w
          rw [e9]
          show (stI t.2 7 0 0).1 9 = _
          rw [show (stI t.2 7 0 0).1 9 = t.2.1 9 from rfl, F1.i 9 (by rw [z4]; decide), K2.i 9 (by decide)]
      · exact Or.inl z
    · rcases q2 with z | z
      · exact Or.inl z
      · refine Or.inr ?_
        rcases e10 with e10 | e10
        · rw [z] at e10; exact absurd e10 (by decide)
        · have z4 : h.2.2 7 4 = 9 := by rcases q4 with w | w; exact w; exact absurd (z.trans w.symm) l1
          rw [e10]
          rw [show (stI t.2 7 0 0).1 10 = t.2.1 10 from rfl, F1.i 10 (by rw [z4]; decide), K2.i 10 (by decide)]
theorem law_m {T : Nat → Int32} {n : Nat} {φ : Ph} {h : Hp} (ok : TapeOk T n) (C : MT T n h) (LM : LawM φ h) : Ev (f_X8_law h) fun t => t.1 = (if (lnsP T n 120 0 []).1 then 1 else -100 - nI (lnsP T n 120 0 []).2.1) ∧ Kp [53, 63, 64, 65, 66, 67, 68, 69, 70] h t.2 ∧ t.2.1 53 11 = nI 0 ∧ (∀ j, j ≠ 11 → j ≠ 13 → j ≠ 14 → j ≠ 19 → j ≠ 20 → j ≠ 21 → j ≠ 22 → t.2.1 53 j = h.1 53 j) ∧ LawM (if (lnsP T n 120 0 []).1 then phL (lnsP T n 120 0 []).2.2 else φ) t.2 := by
  have hn := ok.1
  unfold f_X8_law
  simp only [lt]
  have F4 : FrL h (stI (stI (stI (stI h 53 19 0) 53 20 0) 53 21 0) 53 22 0) := ⟨(((((Kp.refl C.2.2).st (by decide)).st (by decide)).st (by decide)).st (by decide)), fun j h1 h2 h3 h4 => by rw [stI_at, if_pos rfl, if_neg h4, stI_at, if_pos rfl, if_neg h3, stI_at, if_pos rfl, if_neg h2, stI_at, if_pos rfl, if_neg h1]⟩
  have D4 : MD 0 (stI (stI (stI (stI h 53 19 0) 53 20 0) 53 21 0) 53 22 0) [] := ⟨rfl, rfl, fun i hi => absurd hi (Nat.not_lt_zero _)⟩
  have a19 : (stI (stI (stI (stI h 53 19 0) 53 20 0) 53 21 0) 53 22 0).1 53 19 = nI 0 := rfl
  have a22 : (stI (stI (stI (stI h 53 19 0) 53 20 0) 53 21 0) 53 22 0).1 53 22 = nI 0 := rfl
  generalize stI (stI (stI (stI h 53 19 0) 53 20 0) 53 21 0) 53 22 0 = h4 at F4 D4 a19 a22
  have C4 := F4.mt C
  have okL := (lns_ok (T := T) (n := n) 120 0 [] (by omega) (fun l hl => by cases hl)).2
  refine ev_call (line_m ok C4 (Nat.zero_le _) (Nat.le_refl _) a19 D4 (by decide) a22) (fun r5 h5 => ?_)
  have M0 : MidM T n h (lnsP T n 120 0 []) 0 r5 := mid_m (L := []) rfl (Nat.zero_le _) (Nat.le_refl _) (Nat.le_refl _) F4 ⟨a22, D4, fun i hi => absurd hi (Nat.not_lt_zero _)⟩ h5 (f := 119) rfl rfl
  generalize lnsP T n 120 0 [] = Q at M0 okL
  refine ev_call (lawloop_m ok C M0) (fun a ha => ?_)
  obtain ⟨F, ha⟩ := ha
  -- no law
  have no : Q.1 = false → a.2.1 53 19 = nI Q.2.1 → Ev (j_X8_law_66 0 a.2) fun t => t.1 = (if Q.1 then 1 else -100 - nI Q.2.1) ∧ Kp [53, 63, 64, 65, 66, 67, 68, 69, 70] h t.2 ∧ t.2.1 53 11 = nI 0 ∧ (∀ j, j ≠ 11 → j ≠ 13 → j ≠ 14 → j ≠ 19 → j ≠ 20 → j ≠ 21 → j ≠ 22 → t.2.1 53 j = h.1 53 j) ∧ LawM (if Q.1 then phL Q.2.2 else φ) t.2 := by
    intro hq h19
    unfold j_X8_law_66
    simp only [lt, if_true]
    have e19 : (stI a.2 53 11 0).1 53 19 = nI Q.2.1 := by rw [stI_at, if_pos rfl, if_neg (by decide)]; exact h19
    rw [e19]
    have nq : ¬ Q.1 = true := by rw [hq]; decide
    rw [if_neg nq]
    refine ev_some ⟨rfl, (F.1.mono (by decide)).st (by decide), rfl, fun j h1 h2 h3 h4 h5 h6 h7 => ?_, ?_⟩
    · rw [stI_at, if_pos rfl, if_neg h1]; exact F.2 j h4 h5 h6 h7
    · rw [if_neg nq]
      refine LM.eq ?_ ?_ ?_ ?_ ?_ ?_
      · rw [stI_at, if_pos rfl, if_neg (by decide)]; exact F.2 13 (by decide) (by decide) (by decide) (by decide)
      · rw [stI_at, if_pos rfl, if_neg (by decide)]; exact F.2 14 (by decide) (by decide) (by decide) (by decide)
      · rw [show (stI a.2 53 11 0).1 63 = a.2.1 63 from rfl]; exact F.1.i 63 (by decide)
      · rw [show (stI a.2 53 11 0).1 64 = a.2.1 64 from rfl]; exact F.1.i 64 (by decide)
      · rw [show (stI a.2 53 11 0).1 65 = a.2.1 65 from rfl]; exact F.1.i 65 (by decide)
      · rw [show (stI a.2 53 11 0).1 66 = a.2.1 66 from rfl]; exact F.1.i 66 (by decide)
  unfold j_X8_law_46 j_X8_law_65
  rcases ha with ⟨s1, p, acc, s2, s5, s6, s7, s8, s9⟩ | ⟨s1, s2, s3⟩
  · rw [s1, if_neg (by decide), s7, F.2 11 (by decide) (by decide) (by decide) (by decide), C.1]
    by_cases e : n ≤ p
    · rw [if_pos e] at s9
      rw [if_pos (show nI p = nI n from congrArg nI (by omega))]
      subst s9
      unfold j_X8_law_66
      simp only [lt]
      rw [if_neg (by decide)]
      have b22 : (stI (stI a.2 53 11 0) 53 13 1).1 53 22 = nI acc.length := by rw [stI_at, if_pos rfl, if_neg (by decide), stI_at, if_pos rfl, if_neg (by decide)]; exact s8.1
      rw [b22]
      have K15 : Kp [53, 67, 68, 69, 70] h (stI (stI (stI a.2 53 11 0) 53 13 1) 53 14 (nI acc.length)) := (((F.1).st (by decide)).st (by decide)).st (by decide)
      have j15 : ∀ j, j ≠ 11 → j ≠ 13 → j ≠ 14 → (stI (stI (stI a.2 53 11 0) 53 13 1) 53 14 (nI acc.length)).1 53 j = a.2.1 53 j := fun j h1 h2 h3 => by rw [stI_at, if_pos rfl, if_neg h3, stI_at, if_pos rfl, if_neg h2, stI_at, if_pos rfl, if_neg h1]
      have c11 : (stI (stI (stI a.2 53 11 0) 53 13 1) 53 14 (nI acc.length)).1 53 11 = nI 0 := rfl
      have c13 : (stI (stI (stI a.2 53 11 0) 53 13 1) 53 14 (nI acc.length)).1 53 13 = 1 := rfl
      have c14 : (stI (stI (stI a.2 53 11 0) 53 13 1) 53 14 (nI acc.length)).1 53 14 = nI acc.length := rfl
      have H15 : LnsM (stI (stI (stI a.2 53 11 0) 53 13 1) 53 14 (nI acc.length)) acc := ⟨by rw [j15 22 (by decide) (by decide) (by decide)]; exact s8.1, ⟨by rw [j15 20 (by decide) (by decide) (by decide)]; exact s8.2.1.1, by rw [j15 21 (by decide) (by decide) (by decide)]; exact s8.2.1.2.1, s8.2.1.2.2⟩, s8.2.2⟩
      generalize stI (stI (stI a.2 53 11 0) 53 13 1) 53 14 (nI acc.length) = g at K15 j15 c11 c13 c14 H15
      refine ev_mono (copy_m K15.1 c14 s5 (by omega) H15) (fun t ht => ?_)
      obtain ⟨t1, t2, t3⟩ := ht
      have t53 : t.2.1 53 = g.1 53 := t2.i 53 (by decide)
      refine ⟨by rw [t1]; rfl, (K15.mono (by decide)).trans (t2.mono (by decide)), by rw [t53]; exact c11, fun j h1 h2 h3 h4 h5 h6 h7 => ?_, ?_⟩
      · rw [t53, j15 j h1 h2 h3]; exact F.2 j h4 h5 h6 h7
      · exact lawM_new (by rw [t53, c13]; decide) okL t3
    · rw [if_neg e] at s9
      rw [if_neg (show ¬ nI p = nI n by rw [nI_eq (by omega) (by omega)]; omega)]
      have hq : Q.1 = false := by rw [← s9]
      exact no hq (by rw [s7, ← s9])
  · rw [s1, if_pos rfl]
    exact no s2 s3
/-- what a law may write -/
def LAWL : List Nat := [7, 9, 10, 53, 63, 64, 65, 66, 67, 68, 69, 70]
theorem a_law (h : Hp) (R : Rel h) : Ag (f_X7_law h) f_X8_law := by
  obtain ⟨f, s, φ, b, ⟨r1, r2, r3, r4⟩, ⟨r5, r6, r7, r8⟩, ⟨r9, r10⟩, r11, ⟨n, t1, t2, t3, t4⟩, r13, r14, r15, r16⟩ := R
  have ok : TapeOk (h.1 8) n := ⟨t1, fun i hi => (t4 i hi).2⟩
  unfold Ag f_X7_law
  refine ev_call (enact_x ok r1 t2 (fun i _ => rfl) r9) (fun r hr => ev_some ?_)
  obtain ⟨a1, a2, a3, a4⟩ := hr
  have CM : MT (h.1 8) n r.2 := ⟨by rw [a2.i 53 (by decide)]; exact t3, fun i hi => by rw [a2.i 62 (by decide)]; exact (t4 i hi).1.symm, a2.1⟩
  have LM : LawM φ r.2 := r10.kp a2 (by rw [a2.i 53 (by decide)]) (by rw [a2.i 53 (by decide)]) (by decide)
  refine ev_mono (law_m ok CM LM) (fun t ht => ?_)
  obtain ⟨b1, b2, b3, b4, b5⟩ := ht
  refine ⟨by rw [a1, b1], ?_⟩
  have LX : LawX (if (lnsP (h.1 8) n 120 0 []).1 then phL (lnsP (h.1 8) n 120 0 []).2.2 else φ) t.2 := a4.kp b2 (by decide)
  have hP : PhOk (if (lnsP (h.1 8) n 120 0 []).1 then phL (lnsP (h.1 8) n 120 0 []).2.2 else φ) := by
    split
    · exact phL_ok _
    · exact r2
  generalize (if (lnsP (h.1 8) n 120 0 []).1 then phL (lnsP (h.1 8) n 120 0 []).2.2 else φ) = φ' at LX hP b5
  have K : Kp LAWL h t.2 := (a2.mono (by decide)).trans (b2.mono (by decide))
  have e53 : ∀ j, j ≠ 11 → j ≠ 13 → j ≠ 14 → j ≠ 19 → j ≠ 20 → j ≠ 21 → j ≠ 22 → t.2.1 53 j = h.1 53 j := fun j h1 h2 h3 h4 h5 h6 h7 => by rw [b4 j h1 h2 h3 h4 h5 h6 h7, a2.i 53 (by decide)]
  have e7 : t.2.1 7 0 = nI 0 := by rw [b2.i 7 (by decide)]; exact a3
  have z : ∀ j, ([11, 13, 14, 19, 20, 21, 22].contains j) = false → t.2.1 53 j = h.1 53 j := fun j hj => e53 j (fun e => by rw [e] at hj; cases hj) (fun e => by rw [e] at hj; cases hj) (fun e => by rw [e] at hj; cases hj) (fun e => by rw [e] at hj; cases hj) (fun e => by rw [e] at hj; cases hj) (fun e => by rw [e] at hj; cases hj) (fun e => by rw [e] at hj; cases hj)
  refine ⟨f, s, φ', b, ⟨K.1, hP, r3, r4⟩, ⟨r5.kp K (by decide), r6.kp K (z 1 (by decide)) (z 4 (by decide)) (by decide), r7.kp K (by decide) (by decide) (by decide), r8.kp K (z 10 (by decide)) (by decide)⟩, ⟨LX, b5⟩, r11.eq (K.i 16 (by decide)) (K.i 73 (by decide)), ⟨0, Nat.zero_le _, e7, b3, fun i hi => absurd hi (Nat.not_lt_zero _)⟩, r13.eq (K.i 0 (by decide)) (K.i 21 (by decide)) (K.i 22 (by decide)) (K.i 23 (by decide)) (K.i 74 (by decide)) (K.i 24 (by decide)) (K.i 75 (by decide)) (z 30 (by decide)) (z 31 (by decide)) (K.i 17 (by decide)), r14.eq (K.i 25 (by decide)) (K.i 26 (by decide)) (K.i 27 (by decide)) (K.i 28 (by decide)) (K.i 29 (by decide)) (K.i 76 (by decide)) (z 34 (by decide)) (z 35 (by decide)), ?_, r16.eq (K.i 41 (by decide)) (K.i 42 (by decide)) (K.i 77 (by decide)) (K.i 43 (by decide)) (K.i 78 (by decide)) (z 37 (by decide)) (z 39 (by decide))⟩
  intro k hk
  have h1 := r15 k hk
  unfold ShAt at h1 ⊢
  rw [K.i 39 (by decide), K.i 79 (by decide), K.i 40 (by decide), K.l 81 (by decide), K.l (32 + k) (by
    match k, hk with
    | 0, _ => decide
    | 1, _ => decide
    | 2, _ => decide
    | 3, _ => decide
    | 4, _ => decide
    | 5, _ => decide), K.i 38 (by decide), K.i 80 (by decide)]
  exact h1
