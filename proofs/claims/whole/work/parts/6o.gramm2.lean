theorem num_m {T : Nat → Int32} {n p : Nat} {h : Hp} (ok : TapeOk T n) (C : MT T n h) (hp : p ≤ n) (h6 : h.1 53 19 = nI p) {o : Nat} {c : List Nat} (D : MD o h c) {R : Nat → List Int32 → Hp → Option (Int32 × Hp)} : Ev (iter (b_X8_isO_11 R) FU (0, 0, h)) fun u : Int32 × Int32 × Hp => u.1 = nI (dgP T n 4 0 p).1 ∧ FrM h u.2.2 ∧ u.2.2.1 53 19 = nI (dgP T n 4 0 p).2 ∧ MD o u.2.2 c := by
  have hn := ok.1
  refine ev_for (k := 0) (fun k (u : Int32 × Int32 × Hp) => u.2.1 = nI k ∧ ∃ v p', u.1 = nI v ∧ v < 10 ^ k ∧ p' ≤ n ∧ u.2.2.1 53 19 = nI p' ∧ dgP T n (4 - k) v p' = dgP T n 4 0 p ∧ FrM h u.2.2 ∧ MD o u.2.2 c) 4 (fun k u hk hu => ?_) ⟨rfl, 0, p, rfl, by decide, hp, h6, rfl, FrM.refl C.2.2, D⟩ (by decide) (by rw [FUe]; decide)
  obtain ⟨y, y2, g⟩ := u
  obtain ⟨p1, v, p', p2, p3, p4, p5, p6, p7, p8⟩ := hu
  simp only at p1 p2 p5 p7 p8
  subst p1 p2
  unfold b_X8_isO_11
  by_cases z : 4 ≤ k
  · have e : k = 4 := by omega
    rw [if_pos (by rw [nl4]; exact nI_le z (by omega))]
    rw [e] at p6
    have e1 : (v, p') = dgP T n 4 0 p := p6
    exact ev_some ⟨by rw [← e1], p7, by rw [← e1]; exact p5, p8⟩
  · rw [if_neg (by rw [nl4, nI_leI (by decide) (by omega)]; exact z)]
    have Cg := p7.mt C
    simp only
    rw [dig_m ok Cg p4 p5]
    simp only [Option.bind_some]
    rw [show 4 - k = (4 - (k + 1)) + 1 by omega, dgP] at p6
    by_cases e : isDig (sgn T n p') = true
    · rw [if_pos e] at p6
      rw [if_pos e, if_neg (by decide)]
      have hp' := dig_in e
      obtain ⟨b, b1, b2, b3⟩ := dig_val e
      have eT : sgn T n p' = T p' := if_neg (by omega)
      rw [p5, rd_62 (by omega), Cg.2.1 p' hp', ← eT]
      simp only [Option.bind_some, lt]
      have e5 : nI p' + 1 = nI (p' + 1) := by rw [nl1, nI_add]
      rw [e5]
      obtain ⟨f1, f2⟩ := Cg.at (p' + 1)
      have hpow : 10 ^ k ≤ 10 ^ 3 := Nat.pow_le_pow_right (by decide) (by omega)
      have h3 : 10 ^ 3 = 1000 := by decide
      refine ev_some ⟨by omega, by rw [nl1, nI_add], _, p' + 1, ?_, ?_, by omega, f2, p6, p7.trans f1, p8.at _⟩
      · show ((10 * nI v) + sgn T n p') - 48 = nI (10 * v + ((sgn T n p').toNatClampNeg - 48))
        rw [b3, nI_clamp (by omega), nl10, nI_mul, nI_add, show (48 : Int32) = nI 48 from rfl, nI_sub (by omega)]
        exact congrArg nI (by omega)
      · rw [b3, nI_clamp (by omega), Nat.pow_succ]; omega
    · rw [if_neg e] at p6
      rw [if_neg e, if_pos rfl]
      have e1 : (v, p') = dgP T n 4 0 p := p6
      exact ev_some ⟨by rw [← e1], p7, by rw [← e1]; exact p5, p8⟩
theorem rk_sm {T : Nat → Int32} {n o : Nat} {P : Nat → Res} (ok : TapeOk T n) (hg : GoodP n P) {F : Nat} (hs : SmM T n o P (fun h => fG_GE F 5 [] h)) : SmM T n o (rkN T n P 5) (fun h => fG_GE (F + 5) 0 [] h) := by
  have h1 := rP_m ok hg hs
  have g1 := good_rkN (T := T) hg 1
  have h2 := rS_m ok g1 h1
  have g2 := good_rkN (T := T) hg 2
  have h3 := rB_m ok g2 h2
  have g3 := good_rkN (T := T) hg 3
  have h4 := rA_m ok g3 h3
  have g4 := good_rkN (T := T) hg 4
  exact rE_m ok g4 h4
theorem leaf_sm {T : Nat → Int32} {n o p : Nat} {h : Hp} {c : List Nat} (ok : TapeOk T n) (C : MT T n h) (hp : p ≤ n) (hl : c.length ≤ p) (h6 : h.1 53 19 = nI p) (D : MD o h c) {q : Res} (hq : lfP T n p = some q) {R : Nat → List Int32 → Hp → Option (Int32 × Hp)} : Ev (m_X8_isO R h) fun t => t.1 = (if q.1 then 1 else 0) ∧ FrM h t.2 ∧ t.2.1 53 19 = nI q.2.1 ∧ (q.1 = true → MD o t.2 (c ++ q.2.2)) := by
  have hn := ok.1
  unfold m_X8_isO
  rw [dig_m ok C hp h6]
  simp only [Option.bind_some]
  unfold lfP at hq
  by_cases e : isDig (sgn T n p) = true
  · rw [if_pos e] at hq
    cases hq
    rw [if_pos e, if_neg (by decide)]
    refine ev_call (num_m ok C hp h6 D) (fun u hu => ?_)
    obtain ⟨u1, u2, u3, u4⟩ := hu
    obtain ⟨gg, y1, y2, y3, y4⟩ := code_m (u2.mt C) u4 (show c.length < 200 by omega) (v := 18 + (dgP T n 4 0 p).1) (x := 18 + u.1) (by rw [u1, show (18 : Int32) = nI 18 from rfl, nI_add])
    rw [y1]
    exact ev_some ⟨rfl, u2.trans y2, by rw [y3]; exact u3, fun _ => y4⟩
  · rw [if_neg e] at hq
    rw [if_neg e, if_pos rfl, sign_m ok C hp h6]
    simp only [Option.bind_some]
    by_cases e2 : nmOf (sgn T n p) < 6
    rotate_left
    · rw [if_neg e2] at hq; cases hq
    · rw [if_pos e2] at hq
      cases hq
      have hpn := nm_in e2
      rcases nm_x (sgn T n p) with ⟨k1, k2, k3⟩ | ⟨k1, k2, k3⟩
      rotate_left
      · omega
      rw [k3]
      simp only [Option.bind_some]
      rw [if_neg (nI_pos (by omega))]
      simp only [lt]
      have e5 : nI p + 1 = nI (p + 1) := by rw [nl1, nI_add]
      rw [h6, e5]
      obtain ⟨f1, f2⟩ := C.at (p + 1)
      obtain ⟨gg, y1, y2, y3, y4⟩ := code_m (f1.mt C) (D.at (p + 1)) (show c.length < 200 by omega) (v := nmOf (sgn T n p)) (x := nI (nmOf (sgn T n p))) rfl
      rw [y1]
      exact ev_some ⟨rfl, f1.trans y2, by rw [y3]; exact f2, fun _ => y4⟩
/-- behind the test for digits and names -/
def restO (R : Nat → List Int32 → Hp → Option (Int32 × Hp)) (h : Hp) : Option (Int32 × Hp) := if (h.1 53 20) = 6 then some (0, h) else lt (stI h 53 20 ((h.1 53 20) + 1)) fun h7 => (f_X8_is 33 h7).bind fun r8 => if r8.1 = 0 then (f_X8_is 45 r8.2).bind fun r10 => if r10.1 = 0 then (f_X8_is 40 r10.2).bind fun r12 => if r12.1 = 0 then lt (stI r12.2 53 20 ((r12.2.1 53 20) - 1)) fun h14 => some (0, h14) else (R 0 [] r12.2).bind fun r15 => if r15.1 = 0 then lt (stI r15.2 53 20 ((r15.2.1 53 20) - 1)) fun h17 => some (0, h17) else (f_X8_is 41 r15.2).bind fun r18 => if r18.1 = 0 then lt (stI r18.2 53 20 ((r18.2.1 53 20) - 1)) fun h20 => some (0, h20) else lt (stI r18.2 53 20 ((r18.2.1 53 20) - 1)) fun h21 => some (1, h21) else (R 5 [] r10.2).bind fun r22 => if r22.1 = 0 then lt (stI r22.2 53 20 ((r22.2.1 53 20) - 1)) fun h24 => some (0, h24) else (f_X8_codes 17 r22.2).bind fun r25 => if r25.1 = 0 then lt (stI r25.2 53 20 ((r25.2.1 53 20) - 1)) fun h27 => some (0, h27) else lt (stI r25.2 53 20 ((r25.2.1 53 20) - 1)) fun h28 => some (1, h28) else (R 5 [] r8.2).bind fun r29 => if r29.1 = 0 then lt (stI r29.2 53 20 ((r29.2.1 53 20) - 1)) fun h31 => some (0, h31) else (f_X8_codes 16 r29.2).bind fun r32 => if r32.1 = 0 then lt (stI r32.2 53 20 ((r32.2.1 53 20) - 1)) fun h34 => some (0, h34) else lt (stI r32.2 53 20 ((r32.2.1 53 20) - 1)) fun h35 => some (1, h35)
theorem noleaf_sm {T : Nat → Int32} {n p : Nat} {h : Hp} (ok : TapeOk T n) (C : MT T n h) (hp : p ≤ n) (h6 : h.1 53 19 = nI p) (hq : lfP T n p = none) {R : Nat → List Int32 → Hp → Option (Int32 × Hp)} : m_X8_isO R h = restO R h := by
  unfold m_X8_isO
  rw [dig_m ok C hp h6]
  simp only [Option.bind_some]
  unfold lfP at hq
  by_cases e : isDig (sgn T n p) = true
  · rw [if_pos e] at hq; cases hq
  · rw [if_neg e] at hq
    rw [if_neg e, if_pos rfl, sign_m ok C hp h6]
    simp only [Option.bind_some]
    by_cases e2 : nmOf (sgn T n p) < 6
    · rw [if_pos e2] at hq; cases hq
    · rcases nm_x (sgn T n p) with ⟨k1, k2, k3⟩ | ⟨k1, k2, k3⟩
      · omega
      · rw [k3]
        simp only [Option.bind_some]
        rw [if_pos (by decide)]
        rfl
theorem op_sm {T : Nat → Int32} {n : Nat} (ok : TapeOk T n) : ∀ dd, dd ≤ 6 → ∀ F, 6 * dd + 1 ≤ F → SmM T n (6 - dd) (opr T n dd) (fun h => fG_GE F 5 [] h)
  | 0, _, F, hF => by
    intro h p c C hp hl h6 D
    obtain ⟨F', rfl⟩ : ∃ F', F = F' + 1 := ⟨F - 1, by omega⟩
    show Ev (m_X8_isO (fG_GE F') h) _
    rw [opr]
    cases e : lfP T n p with
    | some q => exact leaf_sm ok C hp hl h6 D e
    | none =>
      rw [noleaf_sm ok C hp h6 e]
      unfold restO
      rw [if_pos (by rw [D.1]; rfl)]
      exact ev_some ⟨rfl, FrM.refl C.2.2, h6, fun h => by cases h⟩
  | dd + 1, hdd, F, hF => by
    intro h p c C hp hl h6 D
    obtain ⟨F', rfl⟩ : ∃ F', F = F' + 1 := ⟨F - 1, by omega⟩
    have hn := ok.1
    have ih := op_sm ok dd (by omega)
    show Ev (m_X8_isO (fG_GE F') h) _
    rw [opr]
    cases e : lfP T n p with
    | some q => exact leaf_sm ok C hp hl h6 D e
    | none =>
      rw [noleaf_sm ok C hp h6 e]
      simp only [Option.getD_none]
      unfold restO
      rw [D.1, if_neg (by rw [nl6, nI_eq (by omega) (by decide)]; omega)]
      have eo : nI (6 - (dd + 1)) + 1 = nI (6 - dd) := by rw [nl1, nI_add]; exact congrArg nI (by omega)
      have eb : nI (6 - dd) - 1 = nI (6 - (dd + 1)) := by rw [nl1, nI_sub (by omega)]; exact congrArg nI (by omega)
      simp only [lt]
      rw [eo]
      obtain ⟨F1, F2⟩ := C.op (nI (6 - dd))
      have D1 : MD (6 - dd) (stI h 53 20 (nI (6 - dd))) c := D.op
      have q6 : (stI h 53 20 (nI (6 - dd))).1 53 19 = nI p := by rw [F2]; exact h6
      have C1 := F1.mt C
      generalize stI h 53 20 (nI (6 - dd)) = h7 at F1 F2 D1 q6 C1
      -- closing: open is as it was
      have back : ∀ (g : Hp) (c' : List Nat) (x : Int32) (q : Res) (pos : Nat), FrM h g → g.1 53 19 = nI pos → pos = q.2.1 → x = (if q.1 then 1 else 0) → (q.1 = true → MD (6 - dd) g (c ++ q.2.2)) → (g.1 53 20 = nI (6 - dd) ∨ q.1 = false) → Ev (some (x, stI g 53 20 ((g.1 53 20) - 1))) fun t : Int32 × Hp => t.1 = (if q.1 then 1 else 0) ∧ FrM h t.2 ∧ t.2.1 53 19 = nI q.2.1 ∧ (q.1 = true → MD (6 - (dd + 1)) t.2 (c ++ q.2.2)) := by
        intro g c' x q pos hF h19 hpos hx hD h20
        obtain ⟨G1, G2⟩ := (hF.mt C).op ((g.1 53 20) - 1)
        refine ev_some ⟨hx, hF.trans G1, by rw [G2, h19, hpos], fun hq => ?_⟩
        rcases h20 with h20 | h20
        · show MD _ (stI g 53 20 ((g.1 53 20) - 1)) _
          rw [h20, eb]
          exact (hD hq).op
        · rw [hq] at h20; cases h20
      rw [is_m ok C1 hp q6]
      have un : ∀ (k : Nat) (x : Int32), p < n → (k = 16 ∨ k = 17) → x = nI k → Ev ((fG_GE F' 5 [] (stI h7 53 19 (nI (p + 1)))).bind fun r29 => if r29.1 = 0 then some (0, stI r29.2 53 20 ((r29.2.1 53 20) - 1)) else (f_X8_codes x r29.2).bind fun r32 => if r32.1 = 0 then some (0, stI r32.2 53 20 ((r32.2.1 53 20) - 1)) else some (1, stI r32.2 53 20 ((r32.2.1 53 20) - 1))) fun t : Int32 × Hp => t.1 = (if (unP (opr T n dd (p + 1)) k).1 then 1 else 0) ∧ FrM h t.2 ∧ t.2.1 53 19 = nI (unP (opr T n dd (p + 1)) k).2.1 ∧ ((unP (opr T n dd (p + 1)) k).1 = true → MD (6 - (dd + 1)) t.2 (c ++ (unP (opr T n dd (p + 1)) k).2.2)) := by
        intro k x hpn hk hx
        obtain ⟨f1, f2⟩ := C1.at (p + 1)
        refine ev_call (ih F' (by omega) _ (p + 1) c (f1.mt C1) (by omega) (by omega) f2 (D1.at _)) (fun t ht => ?_)
        obtain ⟨t1, t2, t3, t4⟩ := ht
        have Ft := (F1.trans f1).trans t2
        obtain ⟨s1, s2, s3⟩ := good_opr (T := T) (n := n) dd (p + 1) (by omega)
        unfold unP
        by_cases e2 : (opr T n dd (p + 1)).1 = true
        · obtain ⟨x1, x2, x3, x4⟩ := s3 e2
          rw [if_pos e2] at t1
          rw [if_pos e2, t1, if_neg (by decide)]
          have hlen : (c ++ (opr T n dd (p + 1)).2.2).length < 200 := by rw [List.length_append]; omega
          obtain ⟨gg, y1, y2, y3, y4⟩ := code_m (Ft.mt C) (t4 e2) hlen hx
          rw [y1]
          simp only [Option.bind_some]
          rw [if_neg (by decide)]
          have z := back gg c 1 (true, (opr T n dd (p + 1)).2.1, (opr T n dd (p + 1)).2.2 ++ [k]) (opr T n dd (p + 1)).2.1 (Ft.trans y2) (by rw [y3]; exact t3) rfl rfl (fun _ => by show MD _ gg (c ++ ((opr T n dd (p + 1)).2.2 ++ [k])); rw [← List.append_assoc]; exact y4) (Or.inl y4.1)
          simp only [if_true, true_imp_iff] at z ⊢
          exact z
        · rw [if_neg e2] at t1
          rw [if_neg e2, t1, if_pos rfl]
          exact back t.2 c 0 (false, (opr T n dd (p + 1)).2.1, []) (opr T n dd (p + 1)).2.1 Ft t3 rfl rfl (fun h => by cases h) (Or.inr rfl)
      by_cases e33 : sgn T n p = 33
      · have h40 : ¬ sgn T n p = 40 := by rw [e33]; decide
        simp only [if_pos e33, if_neg h40, Option.bind_some]
        rw [if_neg (by decide)]
        exact un 16 16 (sgn_m1 e33 (by decide)).1 (Or.inl rfl) rfl
      simp only [if_neg e33, Option.bind_some, if_true]
      rw [is_m ok C1 hp q6]
      by_cases e45 : sgn T n p = 45
      · have h40 : ¬ sgn T n p = 40 := by rw [e45]; decide
        simp only [if_pos e45, if_neg h40, Option.bind_some]
        rw [if_neg (by decide)]
        exact un 17 17 (sgn_m1 e45 (by decide)).1 (Or.inr rfl) rfl
      simp only [if_neg e45, Option.bind_some, if_true]
      rw [is_m ok C1 hp q6]
      by_cases e40 : sgn T n p = 40
      rotate_left
      · simp only [if_neg e40, Option.bind_some, if_true]
        exact back h7 c 0 (false, p, []) p F1 q6 rfl rfl (fun h => by cases h) (Or.inr rfl)
      · have hpn := (sgn_m1 e40 (by decide)).1
        simp only [if_pos e40, Option.bind_some]
        rw [if_neg (by decide)]
        obtain ⟨f1, f2⟩ := C1.at (p + 1)
        obtain ⟨F3, rfl⟩ : ∃ F3, F' = F3 + 5 := ⟨F' - 5, by omega⟩
        refine ev_call (rk_sm ok (good_opr (T := T) (n := n) dd) (ih F3 (by omega)) _ (p + 1) c (f1.mt C1) (by omega) (by omega) f2 (D1.at _)) (fun t ht => ?_)
        obtain ⟨t1, t2, t3, t4⟩ := ht
        have Ft := (F1.trans f1).trans t2
        obtain ⟨s1, s2, s3⟩ := good_rkN (T := T) (n := n) (good_opr (T := T) (n := n) dd) 5 (p + 1) (by omega)
        unfold clP
        by_cases e2 : (rkN T n (opr T n dd) 5 (p + 1)).1 = true
        · rw [if_pos e2] at t1
          rw [if_pos e2, t1, if_neg (by decide), is_m ok (Ft.mt C) s2 t3]
          by_cases e3 : sgn T n (rkN T n (opr T n dd) 5 (p + 1)).2.1 = 41
          · rw [if_pos e3, if_pos e3]
            simp only [Option.bind_some]
            rw [if_neg (by decide)]
            obtain ⟨q1, q2⟩ := (Ft.mt C).at ((rkN T n (opr T n dd) 5 (p + 1)).2.1 + 1)
            have D9 := (t4 e2).at ((rkN T n (opr T n dd) 5 (p + 1)).2.1 + 1)
            have z := back _ c 1 (true, (rkN T n (opr T n dd) 5 (p + 1)).2.1 + 1, (rkN T n (opr T n dd) 5 (p + 1)).2.2) _ (Ft.trans q1) q2 rfl rfl (fun _ => D9) (Or.inl D9.1)
            simp only [if_true, true_imp_iff] at z ⊢
            exact z
          · rw [if_neg e3, if_neg e3]
            simp only [Option.bind_some, if_true]
            exact back t.2 c 0 (false, (rkN T n (opr T n dd) 5 (p + 1)).2.1, []) _ Ft t3 rfl rfl (fun h => by cases h) (Or.inr rfl)
        · rw [if_neg e2] at t1
          rw [if_neg e2, t1, if_pos rfl]
          exact back t.2 c 0 (false, (rkN T n (opr T n dd) 5 (p + 1)).2.1, []) _ Ft t3 rfl rfl (fun h => by cases h) (Or.inr rfl)
theorem e_sm {T : Nat → Int32} {n : Nat} (ok : TapeOk T n) : SmM T n 0 (eP T n) (fun h => f_X8_isE h) := rk_sm ok (good_opr (T := T) (n := n) 6) (op_sm ok 6 (by decide) 95 (by decide))
