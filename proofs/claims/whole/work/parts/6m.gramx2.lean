theorem rk_sx {T : Nat → Int32} {n d F r o : Nat} {sub : Nat → Res} (ok : TapeOk T n) (hr : r ≤ 4) (hg : GoodP n sub) (hs : SmX T n d sub (fun h => fG_GR F 0 [nI r + 1, nI o] h)) : SmX T n d (rkP T n sub r) (fun h => fG_GR (F + 1) 0 [nI r, nI o] h) := by
  intro h p c C hp hl h6 D
  have hn := ok.1
  show Ev (m_X4_readRank (fG_GR F) (nI r) (nI o) h) _
  unfold m_X4_readRank
  rw [if_pos (by rw [nl5]; exact nI_lt (by omega) (by decide))]
  refine ev_call (hs h p c C hp hl h6 D) (fun t ht => ?_)
  obtain ⟨t1, t2, t3, t4⟩ := ht
  obtain ⟨g1, g2, g3⟩ := hg p hp
  unfold rkP
  by_cases e : (sub p).1 = true
  rotate_left
  · rw [if_neg e] at t1
    rw [if_neg e, t1, if_pos rfl]
    exact ev_some ⟨rfl, t2, t3, fun h => by cases h⟩
  · rw [if_pos e] at t1
    rw [if_pos e, t1, if_neg (by decide)]
    obtain ⟨w1, w2, w3, w4⟩ := g3 e
    obtain ⟨Q, hQ⟩ : ∃ Q, Q = lpP T n sub r 120 (sub p).2.1 (sub p).2.2 := ⟨_, rfl⟩
    rw [← hQ]
    refine ev_call (P := fun x : (Int32 × Hp) ⊕ (Int32 × Hp) => Sum.elim (fun a : Int32 × Hp => Q.1 = true ∧ FrX d h a.2 ∧ a.2.1 7 6 = nI Q.2.1 ∧ CD d a.2 (c ++ Q.2.2)) (fun a : Int32 × Hp => a.1 = (if Q.1 then 1 else 0) ∧ FrX d h a.2 ∧ a.2.1 7 6 = nI Q.2.1 ∧ (Q.1 = true → CD d a.2 (c ++ Q.2.2))) x) (ev_for (k := 0) (fun k (u : Int32 × Hp) => u.1 = nI k ∧ ∃ p' M, p' ≤ n ∧ (c ++ M).length ≤ p' ∧ FrX d h u.2 ∧ u.2.1 7 6 = nI p' ∧ CD d u.2 (c ++ M) ∧ lpP T n sub r (120 - k) p' M = Q) 120 (fun k u hk hu => ?_) ⟨rfl, (sub p).2.1, (sub p).2.2, g2, by rw [List.length_append]; omega, t2, t3, t4 e, hQ.symm⟩ (by decide) (by rw [FUe]; decide)) (fun x hx => ?_)
    · obtain ⟨y, g⟩ := u
      obtain ⟨p1, p', M, p2, p3, p4, p5, p6, p7⟩ := hu
      simp only at p1 p4 p5 p6
      subst p1
      unfold b_X4_readRank_26
      by_cases z : 120 ≤ k
      · have ek : k = 120 := by omega
        rw [if_pos (by rw [nl120]; exact nI_le z (by omega))]
        rw [ek] at p7
        have e1 : (true, p', M) = Q := p7
        exact ev_some ⟨by rw [← e1], p4, by rw [← e1]; exact p5, by rw [← e1]; exact p6⟩
      · rw [if_neg (by rw [nl120, nI_leI (by decide) (by omega)]; exact z)]
        have Cg := p4.ct C
        simp only
        rw [next_x ok Cg p2 p5]
        simp only [Option.bind_some]
        rw [show 120 - k = (120 - (k + 1)) + 1 by omega, lpP] at p7
        have stop : ¬ rkOf (sgn T n p') = r → Ev (some (Sum.inr (Sum.inr (1, g))) : Option ((Int32 × Hp) ⊕ ((Int32 × Hp) ⊕ (Int32 × Hp)))) (Sum.elim (fun u : Int32 × Hp => k < 120 ∧ u.1 = nI (k + 1) ∧ ∃ p' M, p' ≤ n ∧ (c ++ M).length ≤ p' ∧ FrX d h u.2 ∧ u.2.1 7 6 = nI p' ∧ CD d u.2 (c ++ M) ∧ lpP T n sub r (120 - (k + 1)) p' M = Q) (fun x => Sum.elim (fun a : Int32 × Hp => Q.1 = true ∧ FrX d h a.2 ∧ a.2.1 7 6 = nI Q.2.1 ∧ CD d a.2 (c ++ Q.2.2)) (fun a : Int32 × Hp => a.1 = (if Q.1 then 1 else 0) ∧ FrX d h a.2 ∧ a.2.1 7 6 = nI Q.2.1 ∧ (Q.1 = true → CD d a.2 (c ++ Q.2.2))) x)) := by
          intro hne
          rw [if_neg hne] at p7
          exact ev_some ⟨by rw [← p7]; rfl, p4, by rw [← p7]; exact p5, fun _ => by rw [← p7]; exact p6⟩
        rcases rank_x (sgn T n p') with ⟨k1, k2, k3⟩ | ⟨k1, k2⟩
        rotate_left
        · rw [k2]
          simp only [Option.bind_some]
          rw [if_neg (fun e => nI_m1 (n := r) (by omega) e.symm)]
          exact stop (by omega)
        · rw [k2]
          simp only [Option.bind_some]
          by_cases er : rkOf (sgn T n p') = r
          rotate_left
          · rw [if_neg (by rw [nI_eq (by omega) (by omega)]; exact er)]
            exact stop er
          · rw [if_pos er] at p7
            rw [if_pos (by rw [er])]
            obtain ⟨b1, b2, b3⟩ := rk_in hr er
            simp only [lt]
            have e5 : nI p' + 1 = nI (p' + 1) := by rw [nl1, nI_add]
            rw [p5, e5]
            obtain ⟨f1, f2⟩ := Cg.at (p' + 1)
            refine ev_call (hs _ (p' + 1) (c ++ M) (f1.ct Cg) (by omega) (by omega) f2 (p6.at Cg.2.2.2.2 _)) (fun v hv => ?_)
            obtain ⟨v1, v2, v3, v4⟩ := hv
            obtain ⟨s1, s2, s3⟩ := hg (p' + 1) (by omega)
            have Fv := (p4.trans f1).trans v2
            by_cases e2 : (sub (p' + 1)).1 = true
            rotate_left
            · rw [if_neg e2] at v1 p7
              rw [v1, if_pos rfl]
              exact ev_some ⟨by rw [← p7]; rfl, Fv, by rw [← p7]; exact v3, fun h => by rw [← p7] at h; cases h⟩
            · rw [if_pos e2] at v1 p7
              obtain ⟨x1, x2, x3, x4⟩ := s3 e2
              rw [v1, if_neg (by decide)]
              have hlen : (c ++ M ++ (sub (p' + 1)).2.2).length < 121 := by rw [List.length_append]; omega
              obtain ⟨gg, y1, y2, y3, y4⟩ := emit_x (v := opc (sgn T n p')) (Fv.ct C) (v4 e2) hlen k3
              rw [y1]
              simp only [Option.bind_some]
              have eM : c ++ M ++ (sub (p' + 1)).2.2 ++ [opc (sgn T n p')] = c ++ (M ++ (sub (p' + 1)).2.2 ++ [opc (sgn T n p')]) := by simp [List.append_assoc]
              rw [eM] at y4
              by_cases er2 : r = 2
              · rw [if_pos er2] at p7
                rw [if_pos (by rw [er2]; rfl)]
                exact ev_some ⟨by rw [← p7]; rfl, Fv.trans y2, by rw [← p7, y3]; exact v3, fun _ => by rw [← p7]; exact y4⟩
              · rw [if_neg er2] at p7
                rw [if_neg (by rw [nl2, nI_eq (by omega) (by decide)]; exact er2)]
                refine ev_some ⟨by omega, by rw [nl1, nI_add], (sub (p' + 1)).2.1, _, s2, ?_, Fv.trans y2, by rw [y3]; exact v3, y4, p7⟩
                rw [← eM, List.length_append]
                show (c ++ M ++ (sub (p' + 1)).2.2).length + 1 ≤ _
                rw [List.length_append]
                omega
    · cases x with
      | inl a => exact ev_some ⟨by rw [hx.1]; rfl, hx.2.1, hx.2.2.1, fun _ => hx.2.2.2⟩
      | inr a => exact ev_some hx
theorem rk_all {T : Nat → Int32} {n d o : Nat} {P : Nat → Res} (ok : TapeOk T n) (hg : GoodP n P) {F0 : Nat} (hs : ∀ F, F0 ≤ F → SmX T n d P (fun h => fG_GR F 1 [nI o] h)) : ∀ j, j ≤ 5 → ∀ F, F0 + 1 + j ≤ F → SmX T n d (rkN T n P j) (fun h => fG_GR F 0 [nI (5 - j), nI o] h)
  | 0, _, F, hF => by
    intro h p c C hp hl h6 D
    obtain ⟨F', rfl⟩ : ∃ F', F = F' + 1 := ⟨F - 1, by omega⟩
    show Ev (m_X4_readRank (fG_GR F') (nI (5 - 0)) (nI o) h) _
    unfold m_X4_readRank
    rw [if_neg (by decide)]
    exact ev_call (hs F' (by omega) h p c C hp hl h6 D) (fun t ht => ev_some ht)
  | j + 1, hj, F, hF => by
    obtain ⟨F', rfl⟩ : ∃ F', F = F' + 1 := ⟨F - 1, by omega⟩
    have ih := rk_all ok hg hs j (by omega) F' (by omega)
    have e : (nI (4 - j)) + 1 = nI (5 - j) := by rw [nl1, nI_add]; exact congrArg nI (by omega)
    have h1 : SmX T n d (rkN T n P j) (fun h => fG_GR F' 0 [nI (4 - j) + 1, nI o] h) := by rw [e]; exact ih
    have := rk_sx ok (show 4 - j ≤ 4 by omega) (good_rkN (T := T) hg j) h1
    rw [show 5 - (j + 1) = 4 - j by omega]
    exact this
theorem leaf_sx {T : Nat → Int32} {n d p : Nat} {h : Hp} {c : List Nat} (ok : TapeOk T n) (C : CT T n d h) (hp : p ≤ n) (hl : c.length ≤ p) (h6 : h.1 7 6 = nI p) (D : CD d h c) {q : Res} (hq : lfP T n p = some q) {R : Nat → List Int32 → Hp → Option (Int32 × Hp)} {a1 : Int32} : Ev (m_X4_readOperand R a1 h) fun t => t.1 = (if q.1 then 1 else 0) ∧ FrX d h t.2 ∧ t.2.1 7 6 = nI q.2.1 ∧ (q.1 = true → CD d t.2 (c ++ q.2.2)) := by
  have hn := ok.1
  unfold m_X4_readOperand
  rw [next_x ok C hp h6]
  simp only [Option.bind_some]
  rw [dig_x]
  simp only [Option.bind_some]
  unfold lfP at hq
  by_cases e : isDig (sgn T n p) = true
  · rw [if_pos e] at hq
    cases hq
    rw [if_pos e, if_neg (by decide)]
    refine ev_call (num_x ok C (dig_in e) hl h6 D e) (fun t ht => ev_some ⟨ht.1, ht.2.1, ht.2.2.1, fun _ => ht.2.2.2⟩)
  · rw [if_neg e] at hq
    rw [if_neg e, if_pos rfl]
    by_cases e2 : nmOf (sgn T n p) < 6
    rotate_left
    · rw [if_neg e2] at hq; cases hq
    · rw [if_pos e2] at hq
      cases hq
      have hpn := nm_in e2
      rcases nm_x (sgn T n p) with ⟨k1, k2, k3⟩ | ⟨k1, k2, k3⟩
      rotate_left
      · omega
      rw [k2]
      simp only [Option.bind_some]
      rw [if_neg (nI_pos (by omega))]
      simp only [lt]
      have e5 : nI p + 1 = nI (p + 1) := by rw [nl1, nI_add]
      rw [h6, e5]
      obtain ⟨f1, f2⟩ := C.at (p + 1)
      obtain ⟨gg, y1, y2, y3, y4⟩ := emit_x (v := nmOf (sgn T n p)) (x := 10000 + nI (nmOf (sgn T n p))) (f1.ct C) (D.at C.2.2.2.2 (p + 1)) (by omega) (by
        unfold tX
        rw [if_pos e2, show (10000 : Int32) = nI 10000 from rfl, nI_add])
      rw [y1]
      exact ev_some ⟨rfl, f1.trans y2, by rw [y3]; exact f2, fun _ => y4⟩
theorem noleaf_sx {T : Nat → Int32} {n d p : Nat} {h : Hp} (ok : TapeOk T n) (C : CT T n d h) (hp : p ≤ n) (h6 : h.1 7 6 = nI p) (hq : lfP T n p = none) {R : Nat → List Int32 → Hp → Option (Int32 × Hp)} {a1 : Int32} : m_X4_readOperand R a1 h = if sgn T n p = 40 then j_X4_readOperand_65 R a1 (sgn T n p) h else if sgn T n p = 33 then j_X4_readOperand_65 R a1 (sgn T n p) h else if sgn T n p = 45 then j_X4_readOperand_65 R a1 (sgn T n p) h else some (0, h) := by
  unfold m_X4_readOperand
  rw [next_x ok C hp h6]
  simp only [Option.bind_some]
  rw [dig_x]
  simp only [Option.bind_some]
  unfold lfP at hq
  by_cases e : isDig (sgn T n p) = true
  · rw [if_pos e] at hq; cases hq
  · rw [if_neg e] at hq
    rw [if_neg e, if_pos rfl]
    by_cases e2 : nmOf (sgn T n p) < 6
    · rw [if_pos e2] at hq; cases hq
    · rcases nm_x (sgn T n p) with ⟨k1, k2, k3⟩ | ⟨k1, k2, k3⟩
      · omega
      · rw [k2]
        simp only [Option.bind_some]
        rw [if_pos (by decide)]
theorem op_sx {T : Nat → Int32} {n d : Nat} (ok : TapeOk T n) : ∀ dd, dd ≤ 6 → ∀ F, 8 * dd + 1 ≤ F → SmX T n d (opr T n dd) (fun h => fG_GR F 1 [nI (6 - dd)] h)
  | 0, _, F, hF => by
    intro h p c C hp hl h6 D
    obtain ⟨F', rfl⟩ : ∃ F', F = F' + 1 := ⟨F - 1, by omega⟩
    show Ev (m_X4_readOperand (fG_GR F') (nI (6 - 0)) h) _
    rw [opr]
    cases e : lfP T n p with
    | some q => exact leaf_sx ok C hp hl h6 D e
    | none =>
      rw [noleaf_sx ok C hp h6 e]
      have fail : Ev (j_X4_readOperand_65 (fG_GR F') (nI (6 - 0)) (sgn T n p) h) fun t => t.1 = (if (Option.getD (none : Option Res) (false, p, [])).1 then 1 else 0) ∧ FrX d h t.2 ∧ t.2.1 7 6 = nI (Option.getD (none : Option Res) (false, p, [])).2.1 ∧ ((Option.getD (none : Option Res) (false, p, [])).1 = true → CD d t.2 (c ++ (Option.getD (none : Option Res) (false, p, [])).2.2)) := by
        unfold j_X4_readOperand_65
        rw [if_neg (by decide)]
        exact ev_some ⟨rfl, FrX.refl C.2.2.1, h6, fun h => by cases h⟩
      refine ev_if (fun _ => fail) (fun _ => ev_if (fun _ => fail) (fun _ => ev_if (fun _ => fail) (fun _ => ev_some ⟨rfl, FrX.refl C.2.2.1, h6, fun h => by cases h⟩)))
  | dd + 1, hdd, F, hF => by
    intro h p c C hp hl h6 D
    obtain ⟨F', rfl⟩ : ∃ F', F = F' + 1 := ⟨F - 1, by omega⟩
    have hn := ok.1
    have ih := op_sx (d := d) ok dd (by omega)
    show Ev (m_X4_readOperand (fG_GR F') (nI (6 - (dd + 1))) h) _
    rw [opr]
    cases e : lfP T n p with
    | some q => exact leaf_sx ok C hp hl h6 D e
    | none =>
      rw [noleaf_sx ok C hp h6 e]
      simp only [Option.getD_none]
      have eo : nI (6 - (dd + 1)) + 1 = nI (6 - dd) := by rw [nl1, nI_add]; exact congrArg nI (by omega)
      have e5 : nI p + 1 = nI (p + 1) := by rw [nl1, nI_add]
      obtain ⟨f1, f2⟩ := C.at (p + 1)
      have un : ∀ x k, p < n → ¬ sgn T n p = 40 → (k = 16 ∨ k = 17) → ((if sgn T n p = 33 then (-33 : Int32) else -126) = tX k) → x = unP (opr T n dd (p + 1)) k → Ev (j_X4_readOperand_65 (fG_GR F') (nI (6 - (dd + 1))) (sgn T n p) h) fun t => t.1 = (if x.1 then 1 else 0) ∧ FrX d h t.2 ∧ t.2.1 7 6 = nI x.2.1 ∧ (x.1 = true → CD d t.2 (c ++ x.2.2)) := by
        intro x k hpn h40 hk hx ex
        unfold j_X4_readOperand_65
        rw [if_pos (by rw [nl6]; exact nI_lt (by omega) (by decide))]
        simp only [lt]
        rw [h6, e5, if_neg h40, eo]
        refine ev_call (ih F' (by omega) _ (p + 1) c (f1.ct C) (by omega) (by omega) f2 (D.at C.2.2.2.2 _)) (fun t ht => ?_)
        obtain ⟨t1, t2, t3, t4⟩ := ht
        obtain ⟨s1, s2, s3⟩ := good_opr (T := T) (n := n) dd (p + 1) (by omega)
        have Ft := f1.trans t2
        rw [ex]
        unfold unP
        by_cases e2 : (opr T n dd (p + 1)).1 = true
        · obtain ⟨x1, x2, x3, x4⟩ := s3 e2
          rw [if_pos e2] at t1
          rw [if_pos e2, t1, if_neg (by decide)]
          have hlen : (c ++ (opr T n dd (p + 1)).2.2).length < 121 := by rw [List.length_append]; omega
          by_cases e33 : sgn T n p = 33
          · rw [if_pos e33] at hx ⊢
            obtain ⟨gg, y1, y2, y3, y4⟩ := emit_x (v := k) (Ft.ct C) (t4 e2) hlen hx
            rw [y1]
            exact ev_some ⟨rfl, Ft.trans y2, by rw [y3]; exact t3, fun _ => by show CD d gg (c ++ ((opr T n dd (p + 1)).2.2 ++ [k])); rw [← List.append_assoc]; exact y4⟩
          · rw [if_neg e33] at hx ⊢
            obtain ⟨gg, y1, y2, y3, y4⟩ := emit_x (v := k) (Ft.ct C) (t4 e2) hlen hx
            rw [y1]
            exact ev_some ⟨rfl, Ft.trans y2, by rw [y3]; exact t3, fun _ => by show CD d gg (c ++ ((opr T n dd (p + 1)).2.2 ++ [k])); rw [← List.append_assoc]; exact y4⟩
        · rw [if_neg e2] at t1
          rw [if_neg e2, t1, if_pos rfl]
          exact ev_some ⟨rfl, Ft, t3, fun h => by cases h⟩
      by_cases e40 : sgn T n p = 40
      · have hpn := (sgn_m1 e40 (by decide)).1
        simp only [if_pos e40]
        unfold j_X4_readOperand_65
        rw [if_pos (by rw [nl6]; exact nI_lt (by omega) (by decide))]
        simp only [lt]
        rw [h6, e5, if_pos e40, eo]
        obtain ⟨F2, rfl⟩ : ∃ F2, F' = F2 + 1 := ⟨F' - 1, by omega⟩
        refine ev_call (P := fun t : Int32 × Hp => t.1 = (if (clP T n (rkN T n (opr T n dd) 5 (p + 1))).1 then 1 else 0) ∧ FrX d h t.2 ∧ t.2.1 7 6 = nI (clP T n (rkN T n (opr T n dd) 5 (p + 1))).2.1 ∧ ((clP T n (rkN T n (opr T n dd) 5 (p + 1))).1 = true → CD d t.2 (c ++ (clP T n (rkN T n (opr T n dd) 5 (p + 1))).2.2))) ?_ (fun t ht => ev_some ht)
        show Ev (m_X4_readClosed (fG_GR F2) (nI (6 - dd)) (stI h 7 6 (nI (p + 1)))) _
        unfold m_X4_readClosed
        refine ev_call (rk_all ok (good_opr (T := T) (n := n) dd) ih 5 (by decide) F2 (by omega) _ (p + 1) c (f1.ct C) (by omega) (by omega) f2 (D.at C.2.2.2.2 _)) (fun t ht => ?_)
        obtain ⟨t1, t2, t3, t4⟩ := ht
        have Ft := f1.trans t2
        obtain ⟨s1, s2, s3⟩ := good_rkN (T := T) (n := n) (good_opr (T := T) (n := n) dd) 5 (p + 1) (by omega)
        unfold clP
        by_cases e2 : (rkN T n (opr T n dd) 5 (p + 1)).1 = true
        · rw [if_pos e2] at t1
          rw [if_pos e2, t1, if_neg (by decide), next_x ok (Ft.ct C) s2 t3]
          simp only [Option.bind_some]
          by_cases e3 : sgn T n (rkN T n (opr T n dd) 5 (p + 1)).2.1 = 41
          · rw [if_pos e3, if_pos e3]
            simp only [lt]
            have e6 : nI (rkN T n (opr T n dd) 5 (p + 1)).2.1 + 1 = nI ((rkN T n (opr T n dd) 5 (p + 1)).2.1 + 1) := by rw [nl1, nI_add]
            rw [t3, e6]
            obtain ⟨q1, q2⟩ := (Ft.ct C).at ((rkN T n (opr T n dd) 5 (p + 1)).2.1 + 1)
            exact ev_some ⟨rfl, Ft.trans q1, q2, fun _ => (t4 e2).at C.2.2.2.2 _⟩
          · rw [if_neg e3, if_neg e3]
            exact ev_some ⟨rfl, Ft, t3, fun h => by cases h⟩
        · rw [if_neg e2] at t1
          rw [if_neg e2, t1, if_pos rfl]
          exact ev_some ⟨rfl, Ft, t3, fun h => by cases h⟩
      · simp only [if_neg e40]
        by_cases e33 : sgn T n p = 33
        · simp only [if_pos e33]
          have := un _ 16 (sgn_m1 e33 (by decide)).1 e40 (Or.inl rfl) (by rw [if_pos e33]; rfl) rfl
          exact this
        · simp only [if_neg e33]
          by_cases e45 : sgn T n p = 45
          · simp only [if_pos e45]
            have := un _ 17 (sgn_m1 e45 (by decide)).1 e40 (Or.inr rfl) (by rw [if_neg e33]; rfl) rfl
            exact this
          · simp only [if_neg e45]
            exact ev_some ⟨rfl, FrX.refl C.2.2.1, h6, fun h => by cases h⟩
theorem e_sx {T : Nat → Int32} {n d : Nat} (ok : TapeOk T n) : SmX T n d (eP T n) (fun h => f_X4_readRank 0 0 h) := fun h p c C hp hl h6 D => rk_all ok (good_opr (T := T) (n := n) 6) (op_sx ok 6 (by decide)) 5 (by decide) 100 (by decide) h p c C hp hl h6 D
