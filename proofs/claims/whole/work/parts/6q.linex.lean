/-! the class reads lines -/
theorem line_x {T : Nat → Int32} {n d p : Nat} {h : Hp} {c : List Nat} (ok : TapeOk T n) (C : CT T n d h) (hp : p ≤ n) (hl : c.length ≤ p) (h6 : h.1 7 6 = nI p) (D : CD d h c) : Ev (f_X4_readLine h) fun t => t.1 = (if (lnP T n p).1 then 1 else 0) ∧ FrX d h t.2 ∧ t.2.1 7 6 = nI (lnP T n p).2.1 ∧ ((lnP T n p).1 = true → CD d t.2 (c ++ cX0 (lnP T n p).2.2)) := by
  have hn := ok.1
  unfold f_X4_readLine
  refine ev_call (e_sx ok h p c C hp hl h6 D) (fun t ht => ?_)
  obtain ⟨t1, t2, t3, t4⟩ := ht
  obtain ⟨a1, a2, a3⟩ := good_e (T := T) p hp
  unfold lnP
  by_cases e : (eP T n p).1 = true
  · obtain ⟨b1, b2, b3, b4⟩ := a3 e
    rw [if_pos e] at t1
    rw [t1, if_neg (by decide), next_x ok (t2.ct C) a2 t3]
    simp only [Option.bind_some, if_pos e]
    by_cases e2 : sgn T n (eP T n p).2.1 = 63
    · have hin := (sgn_m1 e2 (by decide)).1
      simp only [if_pos e2, lt]
      have e5 : t.2.1 7 6 + 1 = nI ((eP T n p).2.1 + 1) := by rw [t3, nl1, nI_add]
      rw [e5]
      have C1 := t2.ct C
      obtain ⟨f1, f2⟩ := C1.at ((eP T n p).2.1 + 1)
      have D1 := CD.at C.2.2.2.2 (t4 e) ((eP T n p).2.1 + 1)
      have hlen : (c ++ (eP T n p).2.2).length ≤ (eP T n p).2.1 := by rw [List.length_append]; omega
      obtain ⟨g, g1, g2, g3, g4⟩ := emit_x (f1.ct C1) D1 (show (c ++ (eP T n p).2.2).length < 121 by omega) (v := 20000) (x := -63) (by decide)
      rw [g1]
      simp only [Option.bind_some]
      have C2 := g2.ct (f1.ct C1)
      refine ev_call (e_sx ok g ((eP T n p).2.1 + 1) _ C2 (by omega) (by rw [List.length_append]; exact Nat.add_le_add_right hlen 1) (by rw [g3]; exact f2) g4) (fun u hu => ?_)
      obtain ⟨u1, u2, u3, u4⟩ := hu
      by_cases e3 : (eP T n ((eP T n p).2.1 + 1)).1 = true
      · rw [if_pos e3] at u1
        simp only [if_pos e3]
        refine ev_some ⟨u1, ((t2.trans f1).trans g2).trans u2, u3, fun _ => ?_⟩
        have z := u4 e3
        show CD d u.2 (c ++ cX0 ((eP T n p).2.2, (eP T n ((eP T n p).2.1 + 1)).2.2))
        unfold cX0
        rw [if_neg (wf_ne b3)]
        simpa using z
      · rw [if_neg e3] at u1
        simp only [if_neg e3]
        exact ev_some ⟨u1, ((t2.trans f1).trans g2).trans u2, u3, fun h => by cases h⟩
    · simp only [if_neg e2]
      exact ev_some ⟨rfl, t2, t3, fun _ => t4 e⟩
  · rw [if_neg e] at t1
    rw [t1, if_pos rfl]
    simp only [if_neg e]
    exact ev_some ⟨rfl, t2, t3, fun h => by cases h⟩
theorem lines_x {T : Nat → Int32} {n d : Nat} {h : Hp} (ok : TapeOk T n) (C : CT T n d h) (h6 : h.1 7 6 = nI 0) (D : CD d h []) : Ev (f_X4_readLines h) fun t => t.1 = (if (lnsP T n 120 0 []).1 then 1 else 0) ∧ FrX d h t.2 ∧ t.2.1 7 6 = nI (lnsP T n 120 0 []).2.1 ∧ ((lnsP T n 120 0 []).1 = true → CD d t.2 ((lnsP T n 120 0 []).2.2.flatMap cX) ∧ ((lnsP T n 120 0 []).2.2.flatMap cX).length ≤ 121) := by
  have hn := ok.1
  generalize hQ : lnsP T n 120 0 [] = Q
  unfold f_X4_readLines
  refine ev_call (P := fun r : (Int32 × Hp) ⊕ (Int32 × Hp) => ∃ t, r = .inr t ∧ t.1 = (if Q.1 then 1 else 0) ∧ FrX d h t.2 ∧ t.2.1 7 6 = nI Q.2.1 ∧ (Q.1 = true → CD d t.2 (Q.2.2.flatMap cX) ∧ (Q.2.2.flatMap cX).length ≤ 121)) ?_ (fun r hr => ?_)
  · refine ev_for (k := 0) (fun k (s : Int32 × Hp) => s.1 = nI k ∧ ∃ p acc, p ≤ n ∧ 2 * k ≤ p ∧ (acc.flatMap cX).length ≤ p ∧ FrX d h s.2 ∧ s.2.1 7 6 = nI p ∧ CD d s.2 (acc.flatMap cX) ∧ lnsP T n (120 - k) p acc = Q) 119 (fun k s hk hs => ?_) ⟨rfl, 0, [], by omega, by omega, by decide, FrX.refl C.2.2.1, h6, D, hQ⟩ (by decide) (by rw [FUe]; decide)
    obtain ⟨x, g⟩ := s
    obtain ⟨s1, p, acc, s2, s3, s4, s5, s6, s7, s8⟩ := hs
    simp only at s1 s5 s6 s7
    subst s1
    have C1 := s5.ct C
    unfold b_X4_readLines_2
    rw [if_neg (by rw [nl120]; intro h; rw [nI_ltI (by decide) (by omega)] at h; omega)]
    refine ev_call (line_x ok C1 s2 s4 s6 s7) (fun t ht => ?_)
    obtain ⟨t1, t2, t3, t4⟩ := ht
    obtain ⟨b1, b2⟩ := good_ln (T := T) s2
    rw [show 120 - k = (120 - (k + 1)) + 1 by omega, lnsP_succ] at s8
    by_cases e : (lnP T n p).1 = true
    · obtain ⟨c1, c2, c3, c4⟩ := b2 e
      rw [if_pos e] at t1 s8
      rw [t1, if_neg (by decide)]
      have C2 := t2.ct C1
      have hlen : (acc.flatMap cX ++ cX0 (lnP T n p).2.2).length ≤ (lnP T n p).2.1 := by rw [List.length_append]; omega
      obtain ⟨g', g1, g2, g3, g4⟩ := emit_x C2 (t4 e) (by omega) (v := 20001) (x := -59) (by decide)
      rw [g1]
      have C3 := g2.ct C2
      have F3 := (s5.trans t2).trans g2
      have t3' : g'.1 7 6 = nI (lnP T n p).2.1 := by rw [g3]; exact t3
      have hacc : (acc ++ [(lnP T n p).2.2]).flatMap cX = (acc.flatMap cX ++ cX0 (lnP T n p).2.2) ++ [20001] := by
        rw [List.flatMap_append, List.append_assoc]
        simp [cX]
      rw [← hacc] at g4
      simp only [Option.bind_some, next_x ok C3 b1 t3']
      unfold aftP at s8
      by_cases e2 : n ≤ (lnP T n p).2.1
      · rw [if_pos e2] at s8
        rw [if_pos (show sgn T n (lnP T n p).2.1 = -1 from if_pos e2)]
        subst s8
        refine ev_some ⟨_, rfl, rfl, F3, t3', fun _ => ⟨g4, ?_⟩⟩
        show ((acc ++ [(lnP T n p).2.2]).flatMap cX).length ≤ 121
        rw [hacc, List.length_append]
        simp only [List.length_cons, List.length_nil]
        omega
      · rw [if_neg e2] at s8
        have hne : ¬ sgn T n (lnP T n p).2.1 = -1 := by
          obtain ⟨b, q1, q2⟩ := ok.2 (lnP T n p).2.1 (by omega)
          rw [show sgn T n (lnP T n p).2.1 = T (lnP T n p).2.1 from if_neg e2, q2]
          exact nI_m1 (by omega)
        rw [if_neg hne]
        by_cases e3 : sgn T n (lnP T n p).2.1 = 59
        · rw [if_pos e3] at s8
          rw [if_pos e3]
          simp only [lt]
          have e5 : g'.1 7 6 + 1 = nI ((lnP T n p).2.1 + 1) := by rw [t3', nl1, nI_add]
          rw [e5]
          obtain ⟨f1, f2⟩ := C3.at ((lnP T n p).2.1 + 1)
          refine ev_some ⟨by omega, by rw [nl1, nI_add], (lnP T n p).2.1 + 1, acc ++ [(lnP T n p).2.2], by omega, by omega, ?_, F3.trans f1, f2, CD.at C.2.2.2.2 g4 _, s8⟩
          rw [hacc, List.length_append]
          simp only [List.length_cons, List.length_nil]
          omega
        · rw [if_neg e3] at s8
          rw [if_neg e3]
          subst s8
          exact ev_some ⟨_, rfl, rfl, F3, t3', fun h => by cases h⟩
    · rw [if_neg e] at t1 s8
      rw [t1, if_pos rfl]
      subst s8
      exact ev_some ⟨_, rfl, rfl, s5.trans t2, t3, fun h => by cases h⟩
  · obtain ⟨t, e, ht⟩ := hr
    subst e
    exact ev_some ht
