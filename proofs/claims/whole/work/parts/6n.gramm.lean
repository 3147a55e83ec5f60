/-! the reference reads -/
def MT (T : Nat → Int32) (n : Nat) (h : Hp) : Prop := h.1 53 11 = nI n ∧ (∀ i, i < n → h.1 62 i = T i) ∧ LR h
def MD (o : Nat) (h : Hp) (c : List Nat) : Prop := h.1 53 20 = nI o ∧ h.1 53 21 = nI c.length ∧ ∀ i (hi : i < c.length), h.1 70 i = nI c[i]
def FrM (h t : Hp) : Prop := Kp [53, 70] h t ∧ ∀ j, j ≠ 19 → j ≠ 20 → j ≠ 21 → t.1 53 j = h.1 53 j
theorem FrM.refl {h : Hp} (q : LR h) : FrM h h := ⟨Kp.refl q, fun _ _ _ _ => rfl⟩
theorem FrM.trans {a b c : Hp} (F : FrM a b) (G : FrM b c) : FrM a c := ⟨F.1.trans G.1, fun j h1 h2 h3 => (G.2 j h1 h2 h3).trans (F.2 j h1 h2 h3)⟩
theorem FrM.mt {T : Nat → Int32} {n : Nat} {h t : Hp} (F : FrM h t) (C : MT T n h) : MT T n t := by
  obtain ⟨c1, c2, c3⟩ := C
  exact ⟨by rw [F.2 11 (by decide) (by decide) (by decide)]; exact c1, fun i hi => by rw [F.1.i 62 (by decide)]; exact c2 i hi, F.1.1⟩
theorem MT.at {T : Nat → Int32} {n : Nat} {h : Hp} (C : MT T n h) (p : Nat) : FrM h (stI h 53 19 (nI p)) ∧ (stI h 53 19 (nI p)).1 53 19 = nI p := ⟨⟨(Kp.refl C.2.2).st (by decide), fun j h1 _ _ => by rw [stI_at, if_pos rfl, if_neg h1]⟩, rfl⟩
theorem MT.op {T : Nat → Int32} {n : Nat} {h : Hp} (C : MT T n h) (v : Int32) : FrM h (stI h 53 20 v) ∧ (stI h 53 20 v).1 53 19 = h.1 53 19 := ⟨⟨(Kp.refl C.2.2).st (by decide), fun j _ h2 _ => by rw [stI_at, if_pos rfl, if_neg h2]⟩, by rw [stI_at, if_pos rfl, if_neg (by decide)]⟩
theorem MD.at {o : Nat} {h : Hp} {c : List Nat} (D : MD o h c) (p : Nat) : MD o (stI h 53 19 (nI p)) c := by
  refine ⟨by rw [stI_at, if_pos rfl, if_neg (by decide)]; exact D.1, by rw [stI_at, if_pos rfl, if_neg (by decide)]; exact D.2.1, D.2.2⟩
theorem MD.op {o o' : Nat} {h : Hp} {c : List Nat} (D : MD o h c) : MD o' (stI h 53 20 (nI o')) c := by
  refine ⟨rfl, by rw [stI_at, if_pos rfl, if_neg (by decide)]; exact D.2.1, D.2.2⟩
theorem code_m {T : Nat → Int32} {n o : Nat} {h : Hp} {c : List Nat} (C : MT T n h) (D : MD o h c) (hl : c.length < 200) {v : Nat} {x : Int32} (hx : x = nI v) : ∃ g, f_X8_codes x h = some (1, g) ∧ FrM h g ∧ g.1 53 19 = h.1 53 19 ∧ MD o g (c ++ [v]) := by
  refine ⟨stI (stI h 53 21 (nI (c.length + 1))) 70 c.length x, ?_, ⟨((Kp.refl C.2.2).st (by decide)).st (by decide), fun j h1 h2 h3 => ?_⟩, ?_, ?_, ?_, fun i hi => ?_⟩
  · unfold f_X8_codes
    simp only [lt]
    rw [D.2.1, nI_1, wr_70 hl]
    rfl
  · rw [stI_at, if_neg (by decide), stI_at, if_pos rfl, if_neg h3]
  · rw [stI_at, if_neg (by decide), stI_at, if_pos rfl, if_neg (by decide)]
  · rw [stI_at, if_neg (by decide), stI_at, if_pos rfl, if_neg (by decide)]; exact D.1
  · rw [stI_at, if_neg (by decide), stI_at, if_pos rfl, if_pos rfl, List.length_append]; rfl
  · rw [stI_at, if_pos rfl]
    by_cases e : i = c.length
    · subst e
      rw [if_pos rfl, hx]
      simp
    · rw [if_neg e]
      have hi2 : i < c.length := by simp at hi; omega
      rw [stI_at, if_neg (by decide), D.2.2 i hi2, List.getElem_append_left hi2]
theorem sign_m {T : Nat → Int32} {n p : Nat} {h : Hp} (ok : TapeOk T n) (C : MT T n h) (hp : p ≤ n) (h6 : h.1 53 19 = nI p) : f_X8_sign h = some (sgn T n p) := by
  have hn := ok.1
  unfold f_X8_sign sgn
  rw [C.1, h6]
  by_cases z : n ≤ p
  · rw [if_pos (nI_le z (by omega)), if_pos z]
  · rw [if_neg (by rw [nI_leI (by omega) (by omega)]; exact z), if_neg z, rd_62 (by omega), C.2.1 p (by omega)]
    rfl
theorem is_m {T : Nat → Int32} {n p : Nat} {h : Hp} (ok : TapeOk T n) (C : MT T n h) (hp : p ≤ n) (h6 : h.1 53 19 = nI p) (x : Int32) : f_X8_is x h = if sgn T n p = x then some (1, stI h 53 19 (nI (p + 1))) else some (0, h) := by
  unfold f_X8_is
  rw [sign_m ok C hp h6]
  simp only [Option.bind_some, lt]
  rw [h6, nI_1]
theorem dig_m {T : Nat → Int32} {n p : Nat} {h : Hp} (ok : TapeOk T n) (C : MT T n h) (hp : p ≤ n) (h6 : h.1 53 19 = nI p) : f_X8_isDigit h = some (if isDig (sgn T n p) then 1 else 0) := by
  unfold f_X8_isDigit
  rw [sign_m ok C hp h6]
  simp only [Option.bind_some]
  exact dig_x _
theorem rk0n {x : Int32} (h : ¬ x = 124) : rkOf x ≠ 0 := by
  rcases rk_cases x with rfl | rfl | rfl | rfl | rfl | rfl | rfl | rfl | rfl | rfl | ⟨e, _⟩ <;> first | exact absurd rfl h | decide | (rw [e]; decide)
theorem rk1n {x : Int32} (h : ¬ x = 38) : rkOf x ≠ 1 := by
  rcases rk_cases x with rfl | rfl | rfl | rfl | rfl | rfl | rfl | rfl | rfl | rfl | ⟨e, _⟩ <;> first | exact absurd rfl h | decide | (rw [e]; decide)
theorem rk2n {x : Int32} (h : ¬ x = 60) (h2 : ¬ x = 61) (h3 : ¬ x = 62) : rkOf x ≠ 2 := by
  rcases rk_cases x with rfl | rfl | rfl | rfl | rfl | rfl | rfl | rfl | rfl | rfl | ⟨e, _⟩ <;> first | exact absurd rfl h | exact absurd rfl h2 | exact absurd rfl h3 | decide | (rw [e]; decide)
theorem rk3n {x : Int32} (h : ¬ x = 43) (h2 : ¬ x = 45) : rkOf x ≠ 3 := by
  rcases rk_cases x with rfl | rfl | rfl | rfl | rfl | rfl | rfl | rfl | rfl | rfl | ⟨e, _⟩ <;> first | exact absurd rfl h | exact absurd rfl h2 | decide | (rw [e]; decide)
theorem rk4n {x : Int32} (h : ¬ x = 42) (h2 : ¬ x = 47) (h3 : ¬ x = 37) : rkOf x ≠ 4 := by
  rcases rk_cases x with rfl | rfl | rfl | rfl | rfl | rfl | rfl | rfl | rfl | rfl | ⟨e, _⟩ <;> first | exact absurd rfl h | exact absurd rfl h2 | exact absurd rfl h3 | decide | (rw [e]; decide)
def SmM (T : Nat → Int32) (n o : Nat) (P : Nat → Res) (call : Hp → Option (Int32 × Hp)) : Prop := ∀ (h : Hp) (p : Nat) (c : List Nat), MT T n h → p ≤ n → c.length ≤ p → h.1 53 19 = nI p → MD o h c → Ev (call h) fun t => t.1 = (if (P p).1 then 1 else 0) ∧ FrM h t.2 ∧ t.2.1 53 19 = nI (P p).2.1 ∧ ((P p).1 = true → MD o t.2 (c ++ (P p).2.2))
/-- where a loop of the reference stands -/
def LpM (T : Nat → Int32) (n o : Nat) (sub : Nat → Res) (r : Nat) (c : List Nat) (h : Hp) (Q : Res) (k : Nat) (g : Hp) : Prop := ∃ p' M, p' ≤ n ∧ 2 * k ≤ p' ∧ (c ++ M).length ≤ p' ∧ FrM h g ∧ g.1 53 19 = nI p' ∧ MD o g (c ++ M) ∧ lpP T n sub r (120 - k) p' M = Q
def EndM (o : Nat) (c : List Nat) (h : Hp) (Q : Res) (t : Int32 × Hp) : Prop := t.1 = (if Q.1 then 1 else 0) ∧ FrM h t.2 ∧ t.2.1 53 19 = nI Q.2.1 ∧ (Q.1 = true → MD o t.2 (c ++ Q.2.2))
theorem lp_no {T : Nat → Int32} {n o r k : Nat} {sub : Nat → Res} {c : List Nat} {h g : Hp} {Q : Res} {p' : Nat} {M : List Nat} (hk : k < 120) (hne : rkOf (sgn T n p') ≠ r) (F : FrM h g) (h6 : g.1 53 19 = nI p') (D : MD o g (c ++ M)) (e : lpP T n sub r (120 - k) p' M = Q) : EndM o c h Q (1, g) := by
  rw [show 120 - k = (120 - (k + 1)) + 1 by omega, lpP, if_neg hne] at e
  exact ⟨by rw [← e]; rfl, F, by rw [← e]; exact h6, fun _ => by rw [← e]; exact D⟩
/-- one more: the sign is read, then sub, then a code -/
theorem lp_yes {T : Nat → Int32} {n o r k : Nat} {sub : Nat → Res} {c : List Nat} {h g : Hp} {Q : Res} {p' : Nat} {M : List Nat} {call : Hp → Option (Int32 × Hp)} {x : Int32} (ok : TapeOk T n) (hg : GoodP n sub) (hs : SmM T n o sub call) (hr : r ≤ 4) (C : MT T n h) (hk : k < 120) (he : rkOf (sgn T n p') = r) (hx : x = nI (opc (sgn T n p'))) (hp : p' ≤ n) (h2 : 2 * k ≤ p') (hl : (c ++ M).length ≤ p') (F : FrM h g) (h6 : g.1 53 19 = nI p') (D : MD o g (c ++ M)) (e : lpP T n sub r (120 - k) p' M = Q) : Ev (call (stI g 53 19 (nI (p' + 1)))) fun v => (v.1 = 0 ∧ EndM o c h Q (0, v.2)) ∨ (v.1 = 1 ∧ ∃ gg, f_X8_codes x v.2 = some (1, gg) ∧ (r = 2 → EndM o c h Q (1, gg)) ∧ (r ≠ 2 → LpM T n o sub r c h Q (k + 1) gg)) := by
  have hn := ok.1
  have Cg := F.mt C
  obtain ⟨b1, b2, b3⟩ := rk_in hr he
  obtain ⟨f1, f2⟩ := Cg.at (p' + 1)
  rw [show 120 - k = (120 - (k + 1)) + 1 by omega, lpP, if_pos he] at e
  refine ev_mono (hs _ (p' + 1) (c ++ M) (f1.mt Cg) (by omega) (by omega) f2 (D.at _)) (fun v hv => ?_)
  obtain ⟨v1, v2, v3, v4⟩ := hv
  obtain ⟨s1, s2, s3⟩ := hg (p' + 1) (by omega)
  have Fv := (F.trans f1).trans v2
  by_cases e2 : (sub (p' + 1)).1 = true
  rotate_left
  · rw [if_neg e2] at v1 e
    exact Or.inl ⟨v1, by rw [← e]; rfl, Fv, by rw [← e]; exact v3, fun h => by rw [← e] at h; cases h⟩
  · rw [if_pos e2] at v1 e
    obtain ⟨x1, x2, x3, x4⟩ := s3 e2
    have hlen : (c ++ M ++ (sub (p' + 1)).2.2).length < 200 := by rw [List.length_append]; omega
    obtain ⟨gg, y1, y2, y3, y4⟩ := code_m (Fv.mt C) (v4 e2) hlen hx
    have eM : c ++ M ++ (sub (p' + 1)).2.2 ++ [opc (sgn T n p')] = c ++ (M ++ (sub (p' + 1)).2.2 ++ [opc (sgn T n p')]) := by simp [List.append_assoc]
    have hlen2 : (c ++ (M ++ (sub (p' + 1)).2.2 ++ [opc (sgn T n p')])).length ≤ (sub (p' + 1)).2.1 := by
      rw [← eM, List.length_append]
      show (c ++ M ++ (sub (p' + 1)).2.2).length + 1 ≤ _
      rw [List.length_append]
      omega
    rw [eM] at y4
    refine Or.inr ⟨v1, gg, y1, fun hr2 => ?_, fun hr2 => ?_⟩
    · rw [if_pos hr2] at e
      exact ⟨by rw [← e]; rfl, Fv.trans y2, by rw [← e, y3]; exact v3, fun _ => by rw [← e]; exact y4⟩
    · rw [if_neg hr2] at e
      exact ⟨(sub (p' + 1)).2.1, _, s2, by omega, hlen2, Fv.trans y2, by rw [y3]; exact v3, y4, e⟩
theorem rE_m {T : Nat → Int32} {n o F : Nat} {sub : Nat → Res} (ok : TapeOk T n) (hg : GoodP n sub) (hs : SmM T n o sub (fun h => fG_GE F 1 [] h)) : SmM T n o (rkP T n sub 0) (fun h => fG_GE (F + 1) 0 [] h) := by
  intro h p c C hp hl h6 D
  have hn := ok.1
  show Ev (m_X8_isE (fG_GE F) h) _
  unfold m_X8_isE
  refine ev_call (hs h p c C hp hl h6 D) (fun t ht => ?_)
  obtain ⟨t1, t2, t3, t4⟩ := ht
  obtain ⟨g1, g2, g3⟩ := hg p hp
  unfold rkP
  by_cases e : (sub p).1 = true
  rotate_left
  · rw [if_neg e] at t1
    rw [if_neg e, t1, if_pos rfl]
    exact ev_some ⟨rfl, t2, t3, fun h => by cases h⟩
  · rw [if_pos e] at t1
    rw [if_pos e, t1, if_neg (by decide)]
    obtain ⟨w1, w2, w3, w4⟩ := g3 e
    obtain ⟨Q, hQ⟩ : ∃ Q, Q = lpP T n sub 0 120 (sub p).2.1 (sub p).2.2 := ⟨_, rfl⟩
    rw [← hQ]
    refine ev_call (P := fun x : Hp ⊕ (Int32 × Hp) => Sum.elim (fun a : Hp => EndM o c h Q (1, a)) (fun a : Int32 × Hp => EndM o c h Q a) x) (ev_for (k := 0) (fun k (u : Hp) => LpM T n o sub 0 c h Q k u) 60 (fun k g hk hu => ?_) ⟨(sub p).2.1, (sub p).2.2, g2, Nat.zero_le _, by rw [List.length_append]; omega, t2, t3, t4 e, hQ.symm⟩ (Nat.zero_le _) (by rw [FUe]; decide)) (fun x hx => ?_)
    · obtain ⟨p', M, p2, p2k, p3, p4, p5, p6, p7⟩ := hu
      unfold b_X8_isE_9
      rw [is_m ok (p4.mt C) p2 p5]
      by_cases ex : sgn T n p' = 124
      rotate_left
      · rw [if_neg ex]
        simp only [Option.bind_some]
        rw [if_pos trivial]
        exact ev_some (lp_no (by omega) (rk0n ex) p4 p5 p6 p7)
      · rw [if_pos ex]
        simp only [Option.bind_some]
        rw [if_neg (by decide)]
        refine ev_call (lp_yes (x := 6) ok hg hs (by decide) C (show k < 120 by omega) (by rw [ex]; decide) (by rw [ex]; decide) p2 p2k p3 p4 p5 p6 p7) (fun v hv => ?_)
        rcases hv with ⟨v1, v2⟩ | ⟨v1, gg, v2, v3, v4⟩
        · rw [v1, if_pos rfl]
          exact ev_some v2
        · rw [v1, if_neg (by decide), v2]
          have hL := v4 (by decide)
          refine ev_some ⟨?_, hL⟩
          obtain ⟨p'', _, q1, q2, _⟩ := hL
          omega
    · cases x with
      | inl a => exact ev_some hx
      | inr a => exact ev_some hx
theorem rA_m {T : Nat → Int32} {n o F : Nat} {sub : Nat → Res} (ok : TapeOk T n) (hg : GoodP n sub) (hs : SmM T n o sub (fun h => fG_GE F 2 [] h)) : SmM T n o (rkP T n sub 1) (fun h => fG_GE (F + 1) 1 [] h) := by
  intro h p c C hp hl h6 D
  have hn := ok.1
  show Ev (m_X8_isA (fG_GE F) h) _
  unfold m_X8_isA
  refine ev_call (hs h p c C hp hl h6 D) (fun t ht => ?_)
  obtain ⟨t1, t2, t3, t4⟩ := ht
  obtain ⟨g1, g2, g3⟩ := hg p hp
  unfold rkP
  by_cases e : (sub p).1 = true
  rotate_left
  · rw [if_neg e] at t1
    rw [if_neg e, t1, if_pos rfl]
    exact ev_some ⟨rfl, t2, t3, fun h => by cases h⟩
  · rw [if_pos e] at t1
    rw [if_pos e, t1, if_neg (by decide)]
    obtain ⟨w1, w2, w3, w4⟩ := g3 e
    obtain ⟨Q, hQ⟩ : ∃ Q, Q = lpP T n sub 1 120 (sub p).2.1 (sub p).2.2 := ⟨_, rfl⟩
    rw [← hQ]
    refine ev_call (P := fun x : Hp ⊕ (Int32 × Hp) => Sum.elim (fun a : Hp => EndM o c h Q (1, a)) (fun a : Int32 × Hp => EndM o c h Q a) x) (ev_for (k := 0) (fun k (u : Hp) => LpM T n o sub 1 c h Q k u) 60 (fun k g hk hu => ?_) ⟨(sub p).2.1, (sub p).2.2, g2, Nat.zero_le _, by rw [List.length_append]; omega, t2, t3, t4 e, hQ.symm⟩ (Nat.zero_le _) (by rw [FUe]; decide)) (fun x hx => ?_)
    · obtain ⟨p', M, p2, p2k, p3, p4, p5, p6, p7⟩ := hu
      unfold b_X8_isA_9
      rw [is_m ok (p4.mt C) p2 p5]
      by_cases ex : sgn T n p' = 38
      rotate_left
      · rw [if_neg ex]
        simp only [Option.bind_some]
        rw [if_pos trivial]
        exact ev_some (lp_no (by omega) (rk1n ex) p4 p5 p6 p7)
      · rw [if_pos ex]
        simp only [Option.bind_some]
        rw [if_neg (by decide)]
        refine ev_call (lp_yes (x := 7) ok hg hs (by decide) C (show k < 120 by omega) (by rw [ex]; decide) (by rw [ex]; decide) p2 p2k p3 p4 p5 p6 p7) (fun v hv => ?_)
        rcases hv with ⟨v1, v2⟩ | ⟨v1, gg, v2, v3, v4⟩
        · rw [v1, if_pos rfl]
          exact ev_some v2
        · rw [v1, if_neg (by decide), v2]
          have hL := v4 (by decide)
          refine ev_some ⟨?_, hL⟩
          obtain ⟨p'', _, q1, q2, _⟩ := hL
          omega
    · cases x with
      | inl a => exact ev_some hx
      | inr a => exact ev_some hx
theorem rS_m {T : Nat → Int32} {n o F : Nat} {sub : Nat → Res} (ok : TapeOk T n) (hg : GoodP n sub) (hs : SmM T n o sub (fun h => fG_GE F 4 [] h)) : SmM T n o (rkP T n sub 3) (fun h => fG_GE (F + 1) 3 [] h) := by
  intro h p c C hp hl h6 D
  have hn := ok.1
  show Ev (m_X8_isS (fG_GE F) h) _
  unfold m_X8_isS
  refine ev_call (hs h p c C hp hl h6 D) (fun t ht => ?_)
  obtain ⟨t1, t2, t3, t4⟩ := ht
  obtain ⟨g1, g2, g3⟩ := hg p hp
  unfold rkP
  by_cases e : (sub p).1 = true
  rotate_left
  · rw [if_neg e] at t1
    rw [if_neg e, t1, if_pos rfl]
    exact ev_some ⟨rfl, t2, t3, fun h => by cases h⟩
  · rw [if_pos e] at t1
    rw [if_pos e, t1, if_neg (by decide)]
    obtain ⟨w1, w2, w3, w4⟩ := g3 e
    obtain ⟨Q, hQ⟩ : ∃ Q, Q = lpP T n sub 3 120 (sub p).2.1 (sub p).2.2 := ⟨_, rfl⟩
    rw [← hQ]
    refine ev_call (P := fun x : Int32 × Hp => EndM o c h Q x) (ev_for (k := 0) (fun k (u : Hp) => LpM T n o sub 3 c h Q k u) 60 (fun k g hk hu => ?_) ⟨(sub p).2.1, (sub p).2.2, g2, Nat.zero_le _, by rw [List.length_append]; omega, t2, t3, t4 e, hQ.symm⟩ (Nat.zero_le _) (by rw [FUe]; decide)) (fun x hx => ev_some hx)
    obtain ⟨p', M, p2, p2k, p3, p4, p5, p6, p7⟩ := hu
    have yes : ∀ x : Int32, rkOf (sgn T n p') = 3 → x = nI (opc (sgn T n p')) → 0 ≤ x → Ev (j_X8_isS_38 (fG_GE F) x g) (Sum.elim (fun u : Hp => k < 60 ∧ LpM T n o sub 3 c h Q (k + 1) u) (fun x : Int32 × Hp => EndM o c h Q x)) := by
      intro x hr hx h0
      unfold j_X8_isS_38
      rw [if_pos h0]
      simp only [lt]
      rw [p5, nI_1]
      refine ev_call (lp_yes (x := x) ok hg hs (by decide) C (show k < 120 by omega) hr hx p2 p2k p3 p4 p5 p6 p7) (fun v hv => ?_)
      rcases hv with ⟨v1, v2⟩ | ⟨v1, gg, v2, v3, v4⟩
      · rw [v1, if_pos rfl]
        exact ev_some v2
      · rw [v1, if_neg (by decide), v2]
        have hL := v4 (by decide)
        refine ev_some ⟨?_, hL⟩
        obtain ⟨p'', _, q1, q2, _⟩ := hL
        omega
    unfold b_X8_isS_9
    rw [sign_m ok (p4.mt C) p2 p5]
    simp only [Option.bind_some]
    by_cases x43 : sgn T n p' = 43
    · rw [if_pos x43]
      exact yes 11 (by rw [x43]; decide) (by rw [x43]; decide) (by decide)
    rw [if_neg x43]
    by_cases x45 : sgn T n p' = 45
    · rw [if_pos x45]
      exact yes 12 (by rw [x45]; decide) (by rw [x45]; decide) (by decide)
    rw [if_neg x45]
    unfold j_X8_isS_38
    rw [if_neg (by decide)]
    exact ev_some (lp_no (by omega) (rk3n x43 x45) p4 p5 p6 p7)
theorem rP_m {T : Nat → Int32} {n o F : Nat} {sub : Nat → Res} (ok : TapeOk T n) (hg : GoodP n sub) (hs : SmM T n o sub (fun h => fG_GE F 5 [] h)) : SmM T n o (rkP T n sub 4) (fun h => fG_GE (F + 1) 4 [] h) := by
  intro h p c C hp hl h6 D
  have hn := ok.1
  show Ev (m_X8_isP (fG_GE F) h) _
  unfold m_X8_isP
  refine ev_call (hs h p c C hp hl h6 D) (fun t ht => ?_)
  obtain ⟨t1, t2, t3, t4⟩ := ht
  obtain ⟨g1, g2, g3⟩ := hg p hp
  unfold rkP
  by_cases e : (sub p).1 = true
  rotate_left
  · rw [if_neg e] at t1
    rw [if_neg e, t1, if_pos rfl]
    exact ev_some ⟨rfl, t2, t3, fun h => by cases h⟩
  · rw [if_pos e] at t1
    rw [if_pos e, t1, if_neg (by decide)]
    obtain ⟨w1, w2, w3, w4⟩ := g3 e
    obtain ⟨Q, hQ⟩ : ∃ Q, Q = lpP T n sub 4 120 (sub p).2.1 (sub p).2.2 := ⟨_, rfl⟩
    rw [← hQ]
    refine ev_call (P := fun x : Int32 × Hp => EndM o c h Q x) (ev_for (k := 0) (fun k (u : Hp) => LpM T n o sub 4 c h Q k u) 60 (fun k g hk hu => ?_) ⟨(sub p).2.1, (sub p).2.2, g2, Nat.zero_le _, by rw [List.length_append]; omega, t2, t3, t4 e, hQ.symm⟩ (Nat.zero_le _) (by rw [FUe]; decide)) (fun x hx => ev_some hx)
    obtain ⟨p', M, p2, p2k, p3, p4, p5, p6, p7⟩ := hu
    have yes : ∀ x : Int32, rkOf (sgn T n p') = 4 → x = nI (opc (sgn T n p')) → 0 ≤ x → Ev (j_X8_isP_52 (fG_GE F) x g) (Sum.elim (fun u : Hp => k < 60 ∧ LpM T n o sub 4 c h Q (k + 1) u) (fun x : Int32 × Hp => EndM o c h Q x)) := by
      intro x hr hx h0
      unfold j_X8_isP_52
      rw [if_pos h0]
      simp only [lt]
      rw [p5, nI_1]
      refine ev_call (lp_yes (x := x) ok hg hs (by decide) C (show k < 120 by omega) hr hx p2 p2k p3 p4 p5 p6 p7) (fun v hv => ?_)
      rcases hv with ⟨v1, v2⟩ | ⟨v1, gg, v2, v3, v4⟩
      · rw [v1, if_pos rfl]
        exact ev_some v2
      · rw [v1, if_neg (by decide), v2]
        have hL := v4 (by decide)
        refine ev_some ⟨?_, hL⟩
        obtain ⟨p'', _, q1, q2, _⟩ := hL
        omega
    unfold b_X8_isP_9
    rw [sign_m ok (p4.mt C) p2 p5]
    simp only [Option.bind_some]
    by_cases x42 : sgn T n p' = 42
    · rw [if_pos x42]
      exact yes 13 (by rw [x42]; decide) (by rw [x42]; decide) (by decide)
    rw [if_neg x42]
    by_cases x47 : sgn T n p' = 47
    · rw [if_pos x47]
      exact yes 14 (by rw [x47]; decide) (by rw [x47]; decide) (by decide)
    rw [if_neg x47]
    by_cases x37 : sgn T n p' = 37
    · rw [if_pos x37]
      exact yes 15 (by rw [x37]; decide) (by rw [x37]; decide) (by decide)
    rw [if_neg x37]
    unfold j_X8_isP_52
    rw [if_neg (by decide)]
    exact ev_some (lp_no (by omega) (rk4n x42 x47 x37) p4 p5 p6 p7)
theorem rB_m {T : Nat → Int32} {n o F : Nat} {sub : Nat → Res} (ok : TapeOk T n) (hg : GoodP n sub) (hs : SmM T n o sub (fun h => fG_GE F 3 [] h)) : SmM T n o (rkP T n sub 2) (fun h => fG_GE (F + 1) 2 [] h) := by
  intro h p c C hp hl h6 D
  have hn := ok.1
  show Ev (m_X8_isB (fG_GE F) h) _
  unfold m_X8_isB
  refine ev_call (hs h p c C hp hl h6 D) (fun t ht => ?_)
  obtain ⟨t1, t2, t3, t4⟩ := ht
  obtain ⟨g1, g2, g3⟩ := hg p hp
  unfold rkP
  by_cases e : (sub p).1 = true
  rotate_left
  · rw [if_neg e] at t1
    rw [if_neg e, t1, if_pos rfl]
    exact ev_some ⟨rfl, t2, t3, fun h => by cases h⟩
  · rw [if_pos e] at t1
    rw [if_pos e, t1, if_neg (by decide)]
    obtain ⟨w1, w2, w3, w4⟩ := g3 e
    obtain ⟨Q, hQ⟩ : ∃ Q, Q = lpP T n sub 2 120 (sub p).2.1 (sub p).2.2 := ⟨_, rfl⟩
    rw [← hQ]
    have hl2 : (c ++ (sub p).2.2).length ≤ (sub p).2.1 := by rw [List.length_append]; omega
    have yes : ∀ x : Int32, rkOf (sgn T n (sub p).2.1) = 2 → x = nI (opc (sgn T n (sub p).2.1)) → 0 ≤ x → Ev (j_X8_isB_52 (fG_GE F) x t.2) (fun x : Int32 × Hp => EndM o c h Q x) := by
      intro x hr hx h0
      unfold j_X8_isB_52
      rw [if_pos h0]
      simp only [lt]
      rw [t3, nI_1]
      refine ev_call (lp_yes (k := 0) (x := x) ok hg hs (by decide) C (by decide) hr hx g2 (Nat.zero_le _) hl2 t2 t3 (t4 e) hQ.symm) (fun v hv => ?_)
      rcases hv with ⟨v1, v2⟩ | ⟨v1, gg, v2, v3, v4⟩
      · rw [v1, if_pos rfl]
        exact ev_some v2
      · rw [v1, if_neg (by decide), v2]
        simp only [Option.bind_some]
        rw [if_neg (by decide)]
        exact ev_some (v3 rfl)
    rw [sign_m ok (t2.mt C) g2 t3]
    simp only [Option.bind_some]
    by_cases x60 : sgn T n (sub p).2.1 = 60
    · rw [if_pos x60]
      exact yes 8 (by rw [x60]; decide) (by rw [x60]; decide) (by decide)
    rw [if_neg x60]
    by_cases x61 : sgn T n (sub p).2.1 = 61
    · rw [if_pos x61]
      exact yes 9 (by rw [x61]; decide) (by rw [x61]; decide) (by decide)
    rw [if_neg x61]
    by_cases x62 : sgn T n (sub p).2.1 = 62
    · rw [if_pos x62]
      exact yes 10 (by rw [x62]; decide) (by rw [x62]; decide) (by decide)
    rw [if_neg x62]
    unfold j_X8_isB_52
    rw [if_neg (by decide)]
    exact ev_some (lp_no (k := 0) (by decide) (rk2n x60 x61 x62) t2 t3 (t4 e) hQ.symm)
