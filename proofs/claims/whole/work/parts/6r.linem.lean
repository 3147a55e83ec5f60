/-! the reference reads lines -/
def FrL (h t : Hp) : Prop := Kp [53, 67, 68, 69, 70] h t ∧ ∀ j, j ≠ 19 → j ≠ 20 → j ≠ 21 → j ≠ 22 → t.1 53 j = h.1 53 j
theorem FrL.refl {h : Hp} (q : LR h) : FrL h h := ⟨Kp.refl q, fun _ _ _ _ _ => rfl⟩
theorem FrL.trans {a b c : Hp} (F : FrL a b) (G : FrL b c) : FrL a c := ⟨F.1.trans G.1, fun j h1 h2 h3 h4 => (G.2 j h1 h2 h3 h4).trans (F.2 j h1 h2 h3 h4)⟩
theorem FrM.l {a b : Hp} (F : FrM a b) : FrL a b := ⟨F.1.mono (by decide), fun j h1 h2 h3 _ => F.2 j h1 h2 h3⟩
theorem FrL.mt {T : Nat → Int32} {n : Nat} {h t : Hp} (F : FrL h t) (C : MT T n h) : MT T n t := ⟨by rw [F.2 11 (by decide) (by decide) (by decide) (by decide)]; exact C.1, fun i hi => by rw [F.1.i 62 (by decide)]; exact C.2.1 i hi, F.1.1⟩
/-- the rows of lines, but for line m -/
def Sx (m : Nat) (h g : Hp) : Prop := ∀ j, j ≠ m → g.1 67 j = h.1 67 j ∧ g.1 68 j = h.1 68 j ∧ g.1 69 j = h.1 69 j
theorem Sx.trans {m : Nat} {a b c : Hp} (F : Sx m a b) (G : Sx m b c) : Sx m a c := fun j hj => ⟨(G j hj).1.trans (F j hj).1, (G j hj).2.1.trans (F j hj).2.1, (G j hj).2.2.trans (F j hj).2.2⟩
theorem FrM.sx {a b : Hp} (F : FrM a b) (m : Nat) : Sx m a b := fun j _ => ⟨by rw [F.1.i 67 (by decide)], by rw [F.1.i 68 (by decide)], by rw [F.1.i 69 (by decide)]⟩
theorem Sx.st {h : Hp} {r m : Nat} {v : Int32} : Sx m h (stI h r m v) := fun j hj => ⟨by rw [stI_at, if_neg hj]; split <;> simp_all, by rw [stI_at, if_neg hj]; split <;> simp_all, by rw [stI_at, if_neg hj]; split <;> simp_all⟩
theorem FrL.st {h : Hp} {r m : Nat} {v : Int32} (q : LR h) (hr : r = 67 ∨ r = 68 ∨ r = 69) : FrL h (stI h r m v) := ⟨(Kp.refl q).st (by rcases hr with rfl | rfl | rfl <;> decide), fun j _ _ _ _ => by rw [stI_at, if_neg (by omega)]⟩
theorem MD.st {o : Nat} {h : Hp} {c : List Nat} {r m : Nat} {v : Int32} (D : MD o h c) (hr : r = 67 ∨ r = 68 ∨ r = 69) : MD o (stI h r m v) c := ⟨by rw [stI_at, if_neg (by omega)]; exact D.1, by rw [stI_at, if_neg (by omega)]; exact D.2.1, fun i hi => by rw [stI_at, if_neg (by omega)]; exact D.2.2 i hi⟩
def LinM (T : Nat → Int32) (n p m : Nat) (h : Hp) (c : List Nat) (q : Bool × Nat × Ln) (t : Int32 × Hp) : Prop := t.1 = (if q.1 then 1 else 0) ∧ FrL h t.2 ∧ t.2.1 53 19 = nI q.2.1 ∧ (q.1 = true → MD 0 t.2 (c ++ cM q.2.2) ∧ t.2.1 53 22 = nI (m + 1) ∧ t.2.1 67 m = nI c.length ∧ t.2.1 68 m = nI (c.length + q.2.2.1.length) ∧ t.2.1 69 m = nI (c.length + (cM q.2.2).length) ∧ Sx m h t.2)
theorem linM_end {T : Nat → Int32} {n p m : Nat} {h g : Hp} {c : List Nat} {q : Bool × Nat × Ln} (hm : m ≤ 60) (F : FrL h g) (S : Sx m h g) (h22 : g.1 53 22 = nI m) (h19 : g.1 53 19 = nI q.2.1) (h67 : g.1 67 m = nI c.length) (h68 : g.1 68 m = nI (c.length + q.2.2.1.length)) (D : MD 0 g (c ++ cM q.2.2)) (hq : q.1 = true) : Ev (j_X8_isLine_71 g) (LinM T n p m h c q) := by
  unfold j_X8_isLine_71
  simp only [lt]
  have e1 : g.1 53 22 + 1 = nI (m + 1) := by rw [h22, nl1, nI_add]
  rw [e1, h22, wr_69 (by omega)]
  have hl : (c ++ cM q.2.2).length = c.length + (cM q.2.2).length := List.length_append
  refine ev_some ⟨by rw [if_pos hq], F.trans ⟨((Kp.refl F.1.1).st (by decide)).st (by decide), fun j _ _ _ h4 => ?_⟩, ?_, fun _ => ⟨⟨?_, ?_, fun i hi => ?_⟩, ?_, ?_, ?_, ?_, ?_⟩⟩
  · rw [stI_at, if_neg (by decide), stI_at, if_pos rfl, if_neg h4]
  · rw [stI_at, if_neg (by decide), stI_at, if_pos rfl, if_neg (by decide)]; exact h19
  · rw [stI_at, if_neg (by decide), stI_at, if_pos rfl, if_neg (by decide)]; exact D.1
  · rw [stI_at, if_neg (by decide), stI_at, if_pos rfl, if_neg (by decide)]; exact D.2.1
  · rw [stI_at, if_neg (by decide), stI_at, if_neg (by decide)]; exact D.2.2 i hi
  · rw [stI_at, if_neg (by decide), stI_at, if_pos rfl, if_pos rfl]
  · rw [stI_at, if_neg (by decide), stI_at, if_neg (by decide)]; exact h67
  · rw [stI_at, if_neg (by decide), stI_at, if_neg (by decide)]; exact h68
  · rw [stI_at, if_pos rfl, if_pos rfl, stI_at, if_pos rfl, if_neg (by decide), D.2.1, hl]
  · have S1 : Sx m g (stI g 53 22 (nI (m + 1))) := fun j _ => ⟨by rw [stI_at, if_neg (by decide)], by rw [stI_at, if_neg (by decide)], by rw [stI_at, if_neg (by decide)]⟩
    exact (S.trans S1).trans Sx.st
theorem line_m {T : Nat → Int32} {n p m : Nat} {h : Hp} {c : List Nat} (ok : TapeOk T n) (C : MT T n h) (hp : p ≤ n) (hl : c.length ≤ p) (h6 : h.1 53 19 = nI p) (D : MD 0 h c) (hm : m ≤ 60) (h22 : h.1 53 22 = nI m) : Ev (f_X8_isLine h) (LinM T n p m h c (lnP T n p)) := by
  have hn := ok.1
  unfold f_X8_isLine
  rw [h22, D.2.1, wr_67 (by omega)]
  simp only [Option.bind_some]
  have F1 : FrL h (stI h 67 m (nI c.length)) := FrL.st C.2.2 (Or.inl rfl)
  have S1 : Sx m h (stI h 67 m (nI c.length)) := Sx.st
  have D1 : MD 0 (stI h 67 m (nI c.length)) c := D.st (Or.inl rfl)
  have a19 : (stI h 67 m (nI c.length)).1 53 19 = nI p := by rw [stI_at, if_neg (by decide)]; exact h6
  have a22 : (stI h 67 m (nI c.length)).1 53 22 = nI m := by rw [stI_at, if_neg (by decide)]; exact h22
  have a67 : (stI h 67 m (nI c.length)).1 67 m = nI c.length := by rw [stI_at, if_pos rfl, if_pos rfl]
  generalize stI h 67 m (nI c.length) = h1 at F1 S1 D1 a19 a22 a67
  have C1 := F1.mt C
  refine ev_call (e_sm ok h1 p c C1 hp hl a19 D1) (fun t ht => ?_)
  obtain ⟨t1, t2, t3, t4⟩ := ht
  obtain ⟨a1, a2, a3⟩ := good_e (T := T) p hp
  have Ft := F1.trans t2.l
  have Ct := Ft.mt C
  unfold lnP
  by_cases e : (eP T n p).1 = true
  · obtain ⟨b1, b2, b3, b4⟩ := a3 e
    rw [if_pos e] at t1
    have b22 : t.2.1 53 22 = nI m := by rw [t2.2 22 (by decide) (by decide) (by decide)]; exact a22
    have b67 : t.2.1 67 m = nI c.length := by rw [t2.1.i 67 (by decide)]; exact a67
    rw [t1, if_neg (by decide), b22, rd_67 (by omega)]
    simp only [Option.bind_some]
    rw [b67, wr_68 (by omega)]
    simp only [Option.bind_some]
    have F2 : FrL t.2 (stI t.2 68 m (nI c.length)) := FrL.st t2.1.1 (Or.inr (Or.inl rfl))
    have S2 : Sx m t.2 (stI t.2 68 m (nI c.length)) := Sx.st
    have D2 : MD 0 (stI t.2 68 m (nI c.length)) (c ++ (eP T n p).2.2) := (t4 e).st (Or.inr (Or.inl rfl))
    have c19 : (stI t.2 68 m (nI c.length)).1 53 19 = nI (eP T n p).2.1 := by rw [stI_at, if_neg (by decide)]; exact t3
    have c22 : (stI t.2 68 m (nI c.length)).1 53 22 = nI m := by rw [stI_at, if_neg (by decide)]; exact b22
    have c67 : (stI t.2 68 m (nI c.length)).1 67 m = nI c.length := by rw [stI_at, if_neg (by decide)]; exact b67
    have c68 : (stI t.2 68 m (nI c.length)).1 68 m = nI c.length := by rw [stI_at, if_pos rfl, if_pos rfl]
    generalize stI t.2 68 m (nI c.length) = h5 at F2 S2 D2 c19 c22 c67 c68
    have F3 := Ft.trans F2
    have S3 := (S1.trans (t2.sx m)).trans S2
    have C3 := F3.mt C
    rw [is_m ok C3 a2 c19]
    by_cases e2 : sgn T n (eP T n p).2.1 = 63
    · have hin := (sgn_m1 e2 (by decide)).1
      rw [if_pos e2]
      simp only [Option.bind_some]
      rw [if_neg (by decide)]
      obtain ⟨f1, f2⟩ := C3.at ((eP T n p).2.1 + 1)
      have D3 := D2.at ((eP T n p).2.1 + 1)
      have d22 : (stI h5 53 19 (nI ((eP T n p).2.1 + 1))).1 53 22 = nI m := by rw [f1.2 22 (by decide) (by decide) (by decide)]; exact c22
      have d67 : (stI h5 53 19 (nI ((eP T n p).2.1 + 1))).1 67 m = nI c.length := by rw [f1.1.i 67 (by decide)]; exact c67
      generalize stI h5 53 19 (nI ((eP T n p).2.1 + 1)) = h6 at f1 f2 D3 d22 d67
      rw [d22, D3.2.1, wr_68 (by omega)]
      simp only [Option.bind_some]
      have hl1 : (c ++ (eP T n p).2.2).length = c.length + (eP T n p).2.2.length := List.length_append
      rw [hl1]
      have F4 : FrL h6 (stI h6 68 m (nI (c.length + (eP T n p).2.2.length))) := FrL.st f1.1.1 (Or.inr (Or.inl rfl))
      have S4 : Sx m h6 (stI h6 68 m (nI (c.length + (eP T n p).2.2.length))) := Sx.st
      have D4 : MD 0 (stI h6 68 m (nI (c.length + (eP T n p).2.2.length))) (c ++ (eP T n p).2.2) := D3.st (Or.inr (Or.inl rfl))
      have k19 : (stI h6 68 m (nI (c.length + (eP T n p).2.2.length))).1 53 19 = nI ((eP T n p).2.1 + 1) := by rw [stI_at, if_neg (by decide)]; exact f2
      have k22 : (stI h6 68 m (nI (c.length + (eP T n p).2.2.length))).1 53 22 = nI m := by rw [stI_at, if_neg (by decide)]; exact d22
      have k67 : (stI h6 68 m (nI (c.length + (eP T n p).2.2.length))).1 67 m = nI c.length := by rw [stI_at, if_neg (by decide)]; exact d67
      have k68 : (stI h6 68 m (nI (c.length + (eP T n p).2.2.length))).1 68 m = nI (c.length + (eP T n p).2.2.length) := by rw [stI_at, if_pos rfl, if_pos rfl]
      generalize stI h6 68 m (nI (c.length + (eP T n p).2.2.length)) = h7 at F4 S4 D4 k19 k22 k67 k68
      have F5 := (F3.trans f1.l).trans F4
      have S5 := (S3.trans (f1.sx m)).trans S4
      refine ev_call (e_sm ok h7 ((eP T n p).2.1 + 1) _ (F5.mt C) (by omega) (by rw [hl1]; omega) k19 D4) (fun u hu => ?_)
      obtain ⟨u1, u2, u3, u4⟩ := hu
      by_cases e3 : (eP T n ((eP T n p).2.1 + 1)).1 = true
      · rw [if_pos e3] at u1
        rw [u1, if_neg (by decide)]
        simp only [if_pos e, if_pos e2, if_pos e3]
        refine linM_end hm (F5.trans u2.l) (S5.trans (u2.sx m)) (by rw [u2.2 22 (by decide) (by decide) (by decide)]; exact k22) u3 (by rw [u2.1.i 67 (by decide)]; exact k67) (by rw [u2.1.i 68 (by decide)]; exact k68) ?_ rfl
        have z := u4 e3
        rw [List.append_assoc] at z
        exact z
      · rw [if_neg e3] at u1
        rw [u1, if_pos rfl]
        simp only [if_pos e, if_pos e2, if_neg e3]
        exact ev_some ⟨rfl, F5.trans u2.l, u3, fun h => by cases h⟩
    · rw [if_neg e2]
      simp only [Option.bind_some, if_true]
      simp only [if_pos e, if_neg e2]
      exact linM_end hm F3 S3 c22 c19 c67 c68 D2 rfl
  · rw [if_neg e] at t1
    rw [t1, if_pos rfl]
    simp only [if_neg e]
    exact ev_some ⟨rfl, Ft, t3, fun h => by cases h⟩
