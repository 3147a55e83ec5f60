/-- the reference's first turn, told anew -/
theorem turns_m {f : Fo} {s : Sc} {φ : Ph} {h : Hp} (R : RM f s φ h) {a1 a2 a3 : Int32} {p n : Nat} (hp : p < foP f) {val : Sc → Int32} (ea : a1 / 10 = nI p) (hR : ∀ s' g, RM f s' φ g → Ev (f_X8_turnFrom 1 a2 a1 g) fun t => t.1 = val s' ∧ RM f s' φ t.2 ∧ Kp [54, 61, 71, 72] g t.2) {X Y : Nat → Int32} (hyes : ∀ w, w < foW f → mayB f s p w = true → (X (w + 1), Y (w + 1)) = if X w < val (cal f φ s w (foH f p)) then (val (cal f φ s w (foH f p)), nI w) else (X w, Y w)) (hno : ∀ w, w < foW f → mayB f s p w = false → X (w + 1) = X w ∧ Y (w + 1) = Y w) : Ev (iter (b_X8_byTurns_80 a1 a2 a3 (a1 / 10)) FU (X 0, Y 0, 0, h)) fun t => t.1 = X (foW f) ∧ t.2.1 = Y (foW f) ∧ RM f s φ t.2.2.2 ∧ Kp [54, 61, 71, 72] h t.2.2.2 := by
  have ok := R.2.2.1
  have h10 := ok.1
  have h12 := ok.2.1
  have hh := (ok.2.2.1 p hp).1
  refine ev_for (k := 0) (fun w (u : Int32 × Int32 × Int32 × Hp) => u.1 = X w ∧ u.2.1 = Y w ∧ u.2.2.1 = nI w ∧ RM f s φ u.2.2.2 ∧ Kp [54, 61, 71, 72] h u.2.2.2) (foW f) (fun w u hw hu => ?_) ⟨rfl, rfl, rfl, R, Kp.refl R.1⟩ (Nat.zero_le _) (by rw [FUe]; omega)
  obtain ⟨y, yw, y2, g⟩ := u
  obtain ⟨p1, p1w, p2, p3, p4⟩ := hu
  simp only at p1 p1w p2 p3 p4
  subst p2
  have F := p3.2.2.2.2.1
  have S := p3.2.2.2.2.2.1
  unfold b_X8_byTurns_80
  rw [F.2.1]
  by_cases z : foW f ≤ w
  · have e : w = foW f := by omega
    rw [if_pos (nI_le z (by omega))]
    exact ev_some ⟨by rw [← e]; exact p1, by rw [← e]; exact p1w, p3, p4⟩
  · have hw' : w < foW f := by omega
    have a2' := ok.2.2.2 w hw'
    rw [if_neg (by rw [nI_leI (by omega) (by omega)]; exact z)]
    simp only
    rw [ea, rd_58 (by omega), (F.2.2.2 w hw').2.1]
    simp only [Option.bind_some]
    by_cases q1 : foT f w = p
    · rw [if_pos (by rw [q1]), rd_61 (by omega), S.2.2.1 w hw']
      simp only [Option.bind_some]
      cases e : scF s w with
      | true =>
        rw [if_pos (show nI (bI true) = 1 from rfl)]
        obtain ⟨n1, n2⟩ := hno w hw' (by unfold mayB; simp [e])
        exact ev_some ⟨hw', by rw [n1]; exact p1, by rw [n2]; exact p1w, by rw [nl1, nI_add], p3, p4⟩
      | false =>
        rw [if_neg (by decide)]
        have hmay : mayB f s p w = true := by unfold mayB; simp [e, q1]
        have hy := hyes w hw' hmay
        rw [rd_55 (by omega), (F.2.2.1 p hp).1]
        simp only [Option.bind_some]
        rw [rd_54 hh, S.1 _ hh]
        simp only [Option.bind_some]
        refine ev_call (calls_m p3.1 p3.2.1 p3.2.2.1 p3.2.2.2.1 F S p3.2.2.2.2.2.2 hw' hh) (fun r hr => ?_)
        obtain ⟨r1, r2, r3⟩ := hr
        refine ev_call (hR _ r.2 (p3.to r3 (cal_ok p3.2.2.2.1) r2)) (fun t ht => ?_)
        obtain ⟨t1, t2, t3⟩ := ht
        rw [wr_61 (by omega)]
        simp only [Option.bind_some]
        rw [rd_55 (by omega), show (stI t.2 61 w 0).1 55 p = nI (foH f p) from (t2.2.2.2.2.1.2.2.1 p hp).1]
        simp only [Option.bind_some]
        rw [wr_54 hh]
        simp only [Option.bind_some]
        have K : Kp [54, 61, 71, 72] g (stI (stI t.2 61 w 0) 54 (foH f p) (nI (scN s (foH f p)))) := ((r3.trans t3).st (by decide)).st (by decide)
        have RR := p3.to K p3.2.2.2.1 (unmove_m t2.2.2.2.2.2.1 e hw')
        rw [p1, t1]
        refine ev_if (fun c => ?_) (fun c => ?_)
        · rw [if_pos c] at hy
          exact ev_some ⟨hw', (congrArg Prod.fst hy).symm, (congrArg Prod.snd hy).symm, by rw [nl1, nI_add], RR, p4.trans K⟩
        · rw [if_neg c] at hy
          exact ev_some ⟨hw', (congrArg Prod.fst hy).symm, by rw [p1w]; exact (congrArg Prod.snd hy).symm, by rw [nl1, nI_add], RR, p4.trans K⟩
    · rw [if_neg (by rw [nI_eq (by omega) (by omega)]; exact q1)]
      obtain ⟨n1, n2⟩ := hno w hw' (by unfold mayB; simp [q1])
      exact ev_some ⟨hw', by rw [n1]; exact p1, by rw [n2]; exact p1w, by rw [nl1, nI_add], p3, p4⟩
theorem cEO_ : ∀ n, n < 5 → 1 ≤ n → cE 1 (n - 1) = (n + 1) / 2 - 1 ∧ cO 1 (n - 1) = n / 2 := by decide
theorem cEO (n : Nat) (h1 : 1 ≤ n) (h4 : n ≤ 4) : cE 1 (n - 1) = (n + 1) / 2 - 1 ∧ cO 1 (n - 1) = n / 2 := cEO_ n (by omega) h1
theorem RelA.rm_end {f : Fo} {s : Sc} {φ : Ph} {b : Nat} {h g : Hp} (R : RelA f s φ b h) (M : RM f s φ g) (K : Kp [54, 61, 71, 72] h g) : Rel g :=
  ⟨f, s, φ, b, R.up (K.mono (by decide)) (fun j _ => by rw [K.i 53 (by decide)]) R.1.2.2.2 (R.2.1.2.2.1.eq (K.i 13 (by decide)) (K.i 14 (by decide)) (K.i 15 (by decide))) M.2.2.2.2.2.1 (R.2.2.2.1.eq (K.i 16 (by decide)) (K.i 73 (by decide))) (R.thk.eq (K.i 17 (by decide)))⟩
theorem bym {f : Fo} {s : Sc} {φ : Ph} {b : Nat} {h : Hp} (R : RelA f s φ b h) {v : Int32} {p q n i : Nat} (hp : p < foP f) (hq : q < foP f) (hpq : p ≠ q) (ea : v / 10 = nI p) (eb : v % 10 = nI q) (h1 : 1 ≤ n) (h4 : n ≤ 4) (hi : i ≤ 1) {ans : Int32} (ha : ans = if foH f p = foH f q then (if i = 0 then 0 else nI 12) else if i = 0 then nI (whN f φ s p ((n + 1) / 2 - 1) (foW f)).1 - nI (bst f φ q (n / 2) s) else nI (whN f φ s p ((n + 1) / 2 - 1) (foW f)).2) : Ev ((f_X8_turnFrom 1 (nI n) v h).bind fun r11 => (iter (b_X8_byTurns_80 v (nI n) (nI i) (v / 10)) FU (r11.1, 12, 0, r11.2)).bind fun a26 => if nI i = 0 then some (a26.1, a26.2.2.2) else some (a26.2.1, a26.2.2.2)) fun t => ans = t.1 ∧ Rel t.2 := by
  have ok := R.1.2.2.1
  have so := R.1.2.2.2
  have hph := (ok.2.2.1 p hp).1
  have hqh := (ok.2.2.1 q hq).1
  obtain ⟨c1, c2⟩ := cEO n h1 h4
  have hR : ∀ s' g, RM f s' φ g → Ev (f_X8_turnFrom 1 (nI n) v g) fun t => t.1 = tv f φ p q 1 (n - 1) s' ∧ RM f s' φ t.2 ∧ Kp [54, 61, 71, 72] g t.2 := by
    intro s' g Rg
    have := turn_m hp hq hpq ea eb (n - 1) 1 8 s' g (by omega) (by omega) Rg
    rw [show 1 + (n - 1) = n by omega] at this
    exact this
  refine ev_call (hR s h R.rm) (fun t ht => ?_)
  obtain ⟨t1, t2, t3⟩ := ht
  rw [t1]
  have so' := so
  by_cases z : foH f p = foH f q
  · have hv : ∀ s', tv f φ p q 1 (n - 1) s' = 0 := fun s' => by unfold tv; rw [if_pos z]
    rw [hv, nl12]
    refine ev_call (turns_m (X := fun _ => 0) (Y := fun _ => nI 12) t2 (n := n) hp ea hR (fun w hw hm => ?_) (fun w hw hm => ⟨rfl, rfl⟩)) (fun u hu => ?_)
    · rw [hv, if_neg (by decide)]
    · obtain ⟨u1, u2, u3, u4⟩ := hu
      have RR := R.rm_end u3 (t3.trans u4)
      rw [if_pos z] at ha
      by_cases i0 : i = 0
      · rw [if_pos i0] at ha
        rw [i0, if_pos (by decide)]
        exact ev_some ⟨by rw [ha, u1], RR⟩
      · rw [if_neg i0] at ha
        rw [if_neg (by rw [nl0, nI_eq (by omega) (by decide)]; exact i0)]
        exact ev_some ⟨by rw [ha, u2], RR⟩
  · have hv : ∀ s', tv f φ p q 1 (n - 1) s' = nI (bst f φ p ((n + 1) / 2 - 1) s') - nI (bst f φ q (n / 2) s') := fun s' => by unfold tv; rw [if_neg z, c1, c2]
    have le : ∀ k s', ScOk (foW f) s' → bst f φ p k s' ≤ 999 := fun k s' so' => bst_le hph k s' so'
    have lq : ∀ k s', ScOk (foW f) s' → bst f φ q k s' ≤ 999 := fun k s' so' => bst_le hqh k s' so'
    have lw : ∀ k w, (whN f φ s p k w).1 ≤ 999 := fun k w => by rw [whN_1]; exact fmx_le (le _ _ so) (fun n => le _ _ (cal_ok so)) _
    rw [hv, nl12]
    refine ev_call (turns_m (X := fun w => nI (whN f φ s p ((n + 1) / 2 - 1) w).1 - nI (bst f φ q (n / 2) s)) (Y := fun w => nI (whN f φ s p ((n + 1) / 2 - 1) w).2) t2 (n := n) hp ea hR (fun w hw hm => ?_) (fun w hw hm => ?_)) (fun u hu => ?_)
    · have hT : foT f w = p := by unfold mayB at hm; simp at hm; exact hm.1
      have l1 := lw ((n + 1) / 2 - 1) w
      have l2 := lq (n / 2) s so
      have l3 := le ((n + 1) / 2 - 1) _ (cal_ok (f := f) (φ := φ) (i := w) (hs := foH f p) so)
      rw [hv, bst_same (q := q) _ _ _ (smF_other hpq z hT), whN_yes hm]
      by_cases c : (whN f φ s p ((n + 1) / 2 - 1) w).1 < bst f φ p ((n + 1) / 2 - 1) (cal f φ s w (foH f p))
      · rw [if_pos c, if_pos ((dif_lt l1 l2 l3 l2).mpr (by omega))]
      · rw [if_neg c, if_neg (fun x => by have := (dif_lt l1 l2 l3 l2).mp x; omega)]
    · rw [whN_no hm]; exact ⟨rfl, rfl⟩
    · obtain ⟨u1, u2, u3, u4⟩ := hu
      have RR := R.rm_end u3 (t3.trans u4)
      rw [if_neg z] at ha
      by_cases i0 : i = 0
      · rw [if_pos i0] at ha
        rw [i0, if_pos (by decide)]
        exact ev_some ⟨by rw [ha, u1], RR⟩
      · rw [if_neg i0] at ha
        rw [if_neg (by rw [nl0, nI_eq (by omega) (by decide)]; exact i0)]
        exact ev_some ⟨by rw [ha, u2], RR⟩
theorem ThP.rel {f : Fo} {s s' : Sc} {φ : Ph} {b : Nat} {h g : Hp} (R : RelA f s φ b h) (T : ThP f φ s' h g) : RelA f s φ b g ∧ Kp [11, 12, 17, 18, 19, 20, 49] h g := by
  obtain ⟨h0, K, T, e⟩ := T
  have KK : Kp [11, 12, 17, 18, 19, 20, 49] h g := (K.mono (by decide)).trans (T.1.mono (by decide))
  exact ⟨R.scr (KK.mono (by decide)) (T.thk R.1.2.2.1), KK⟩
theorem a_byTurns (v w u : Int32) (h : Hp) (R : Rel h) : Ag (f_X7_byTurns v w u h) (f_X8_byTurns v w u) := by
  have R0 := R
  obtain ⟨f, s, φ, b, R0A⟩ := R
  obtain ⟨⟨r1, r2, r3, r4⟩, ⟨r5, r6, r7, r8⟩, _⟩ := id R0A
  have n10 : ¬ (1 : Int32) = 0 := by decide
  have h10 := r3.1
  by_cases q0 : v < 0
  · refine ag_same R0 (v := -2000000000) ?_ ?_
    · unfold f_X7_byTurns; rw [if_pos q0]
    · unfold f_X8_byTurns; rw [if_pos q0]
  have X7 : ∀ X : Option (Int32 × Hp), ((f_X3_isOne (v / 10) h).bind fun r6 => if r6 = 0 then some ((-2000000000), h) else (f_X3_isOne (v % 10) h).bind fun r8 => if r8 = 0 then some ((-2000000000), h) else if (v / 10) = (v % 10) then some ((-2000000000), h) else X) = some (-2000000000, h) → X = X := fun _ _ => rfl
  -- what the class answers, its guards open or not
  have G7 : (f_X8_within w 1 4 = some 0 ∨ f_X8_within u 0 1 = some 0) → f_X7_byTurns v w u h = some (-2000000000, h) := by
    intro hg
    unfold f_X7_byTurns
    rw [if_neg q0]
    rcases rng_c 1 4 (by decide) (by decide) w with ⟨n, rfl, n1, n2, n3, n4, n5⟩ | ⟨n3, n5⟩
    · rw [if_neg (by rw [nl1]; exact n3), if_neg (by rw [nl4]; exact nI_nlt n2 (by decide))]
      rcases rng_c 0 1 (by decide) (by decide) u with ⟨i, rfl, i1, i2, i3, i4, i5⟩ | ⟨i3, i5⟩
      · rcases hg with hg | hg
        · rw [show f_X8_within (nI n) 1 4 = some 1 from n5] at hg; cases hg
        · rw [show f_X8_within (nI i) 0 1 = some 1 from i5] at hg; cases hg
      · rcases i3 with i3 | i3
        · rw [if_pos (show u < 0 from i3)]
        · split
          · rfl
          · rw [if_neg (show ¬ u ≤ 1 from i3)]
    · by_cases c : w < 1
      · rw [if_pos c]
      · rw [if_neg c]
        rcases n3 with n3 | n3
        · exact absurd n3 c
        · rw [if_pos]
          rcases i32_split w with ⟨x, hx, rfl⟩ | hx
          · rw [nI_leI hx (by decide)] at n3
            exact nI_lt (show 4 < x by omega) hx
          · exact absurd (neg_lt hx (n := 1) (by decide)) c
  have one0 : f_X3_isOne (v / 10) h = some 0 ∨ (∃ p, p < foP f ∧ v / 10 = nI p ∧ f_X3_isOne (v / 10) h = some 1 ∧ ∀ g : Hp, g.1 53 = h.1 53 → f_X8_isOne (v / 10) g = some 1) := by
    rcases one_c r3 r5 r6 (v / 10) with ⟨p, hp, ep, e1, e2⟩ | ⟨e1, e2⟩
    · exact Or.inr ⟨p, hp, ep, e1, fun g hg => by rw [← e2]; unfold f_X8_isOne; rw [hg]⟩
    · exact Or.inl e1
  have void : f_X8_byTurns v w u h = some (-2000000000, h) → f_X7_byTurns v w u h = some (-2000000000, h) → Ag (f_X7_byTurns v w u h) (f_X8_byTurns v w u) := fun e1 e2 => ag_same R0 e2 e1
  have dead7 : ((f_X3_isOne (v / 10) h = some 0) ∨ (f_X3_isOne (v / 10) h = some 1 ∧ f_X3_isOne (v % 10) h = some 0) ∨ (f_X3_isOne (v / 10) h = some 1 ∧ f_X3_isOne (v % 10) h = some 1 ∧ v / 10 = v % 10)) → f_X7_byTurns v w u h = some (-2000000000, h) := by
    intro hd
    unfold f_X7_byTurns
    rw [if_neg q0]
    split
    · rfl
    split
    · rfl
    split
    · rfl
    split
    · rcases hd with hd | ⟨hd1, hd2⟩ | ⟨hd1, hd2, hd3⟩
      · rw [hd]; rfl
      · rw [hd1]; simp only [Option.bind_some, if_neg n10]; rw [hd2]; rfl
      · rw [hd1]; simp only [Option.bind_some, if_neg n10]; rw [hd2]; simp only [Option.bind_some, if_neg n10]; rw [if_pos hd3]
    · rfl
  rcases one_c r3 r5 r6 (v / 10) with ⟨p, hp, ep, e1, e2⟩ | ⟨e1, e2⟩
  rotate_left
  · exact void (by unfold f_X8_byTurns; rw [if_neg q0, e2]; rfl) (dead7 (Or.inl e1))
  rcases one_c r3 r5 r6 (v % 10) with ⟨q, hq, eq, e3, e4⟩ | ⟨e3, e4⟩
  rotate_left
  · exact void (by unfold f_X8_byTurns; rw [if_neg q0, e2]; simp only [Option.bind_some, if_neg n10]; rw [e4]; rfl) (dead7 (Or.inr (Or.inl ⟨e1, e3⟩)))
  by_cases pq : v / 10 = v % 10
  · exact void (by unfold f_X8_byTurns; rw [if_neg q0, e2]; simp only [Option.bind_some, if_neg n10]; rw [e4]; simp only [Option.bind_some, if_neg n10]; rw [if_pos pq]) (dead7 (Or.inr (Or.inr ⟨e1, e3, pq⟩)))
  have hpq : p ≠ q := fun e => pq (by rw [ep, eq, e])
  have H8 : ∀ g : Hp, g.1 53 = h.1 53 → f_X8_byTurns v w u g = (f_X8_within w 1 4).bind fun r7 => if r7 = 0 then some (-2000000000, g) else (f_X8_within u 0 1).bind fun r9 => if r9 = 0 then some (-2000000000, g) else (f_X8_turnFrom 1 w v g).bind fun r11 => (iter (b_X8_byTurns_80 v w u (v / 10)) FU (r11.1, 12, 0, r11.2)).bind fun a26 => if u = 0 then some (a26.1, a26.2.2.2) else some (a26.2.1, a26.2.2.2) := by
    intro g hg
    have o : ∀ a, f_X8_isOne a g = f_X8_isOne a h := fun a => by unfold f_X8_isOne; rw [hg]
    unfold f_X8_byTurns
    rw [if_neg q0, o, o, e2]; simp only [Option.bind_some, if_neg n10]; rw [e4]; simp only [Option.bind_some, if_neg n10]; rw [if_neg pq]
  rcases rng_c 1 4 (by decide) (by decide) w with ⟨n, rfl, n1, n2, n3, n4, n5⟩ | ⟨n3, n5⟩
  rotate_left
  · exact void (by rw [H8 h rfl, show f_X8_within w 1 4 = some 0 from n5]; rfl) (G7 (Or.inl n5))
  rcases rng_c 0 1 (by decide) (by decide) u with ⟨i, rfl, i1, i2, i3, i4, i5⟩ | ⟨i3, i5⟩
  rotate_left
  · exact void (by rw [H8 h rfl, show f_X8_within (nI n) 1 4 = some 1 from n5]; simp only [Option.bind_some, if_neg n10]; rw [show f_X8_within u 0 1 = some 0 from i5]; rfl) (G7 (Or.inr i5))
  have H9 : ∀ g : Hp, g.1 53 = h.1 53 → f_X8_byTurns v (nI n) (nI i) g = (f_X8_turnFrom 1 (nI n) v g).bind fun r11 => (iter (b_X8_byTurns_80 v (nI n) (nI i) (v / 10)) FU (r11.1, 12, 0, r11.2)).bind fun a26 => if nI i = 0 then some (a26.1, a26.2.2.2) else some (a26.2.1, a26.2.2.2) := by
    intro g hg
    rw [H8 g hg, show f_X8_within (nI n) 1 4 = some 1 from n5]; simp only [Option.bind_some, if_neg n10]; rw [show f_X8_within (nI i) 0 1 = some 1 from i5]; simp only [Option.bind_some, if_neg n10]
  unfold Ag f_X7_byTurns
  rw [if_neg q0, if_neg (by rw [nl1]; exact n3), if_neg (by rw [nl4]; exact nI_nlt n2 (by decide)), if_neg (show ¬ nI i < 0 from i3), if_pos (show nI i ≤ 1 from i4), e1]
  simp only [Option.bind_some, if_neg n10]
  rw [e3]
  simp only [Option.bind_some, if_neg n10]
  rw [if_neg pq, ep, eq, rd_2 (by omega), rd_2 (by omega), (r5.2.2.1 p hp).1, (r5.2.2.1 q hq).1]
  simp only [Option.bind_some]
  have b1 := (r3.2.2.1 p hp).1
  have b2 := (r3.2.2.1 q hq).1
  have zI : nI i = 0 ↔ i = 0 := by rw [nl0, nI_eq (by omega) (by decide)]
  by_cases z : foH f p = foH f q
  · rw [if_pos (by rw [z])]
    by_cases i0 : i = 0
    · rw [if_pos (zI.mpr i0)]
      refine ⟨_, rfl, ?_⟩
      simp only
      rw [H9 h rfl]
      exact bym R0A hp hq hpq ep eq n1 n2 i2 (by rw [if_pos z, if_pos i0])
    · rw [if_neg (fun x => i0 (zI.mp x))]
      refine ⟨_, rfl, ?_⟩
      simp only
      rw [H9 h rfl]
      exact bym R0A hp hq hpq ep eq n1 n2 i2 (by rw [if_pos z, if_neg i0]; rfl)
  · rw [if_neg (by rw [nI_eq (by omega) (by omega)]; exact z)]
    obtain ⟨g, g1, g2⟩ := ThX.start R0A
    rw [g1]
    simp only [Option.bind_some]
    have T0 : ThP f φ s h g := ⟨h, Kp.refl r1, g2, (g2.1.i 49 (by decide)).symm⟩
    rw [nl1, nl2, nI_add, nI_div (by omega) (by decide), nI_div (by omega) (by decide)]
    refine ev_call (play_x R0A.rx r4 T0 hp (show (n + 1) / 2 ≤ 2 by omega)) (fun r hr => ?_)
    obtain ⟨x1, x2, x3⟩ := hr
    have t1 : 1 ≤ (n + 1) / 2 := by omega
    have hb : bst f φ p ((n + 1) / 2) s = (whN f φ s p ((n + 1) / 2 - 1) (foW f)).1 := by
      rw [whN_1]
      conv => lhs; rw [show (n + 1) / 2 = ((n + 1) / 2 - 1) + 1 by omega]
      rw [bst]
    by_cases i0 : i = 0
    · rw [if_neg (by rw [nI_eq (by omega) (by decide)]; omega), nl0, rd_49 (by decide), x1]
      simp only [Option.bind_some]
      refine ev_call (play_x R0A.rx r4 x3 hq (show n / 2 ≤ 2 by omega)) (fun r' hr' => ?_)
      obtain ⟨y1, y2, y3⟩ := hr'
      rw [rd_49 (by decide), y1]
      refine ⟨_, rfl, ?_⟩
      simp only
      obtain ⟨RA, K⟩ := ThP.rel R0A y3
      rw [H9 r' (K.i 53 (by decide))]
      exact bym RA hp hq hpq ep eq n1 n2 i2 (by rw [if_neg z, if_pos i0, hb])
    · have i1' : i = 1 := by omega
      rw [if_pos (by rw [i1']), rd_49 (by decide), x2 t1]
      refine ⟨_, rfl, ?_⟩
      simp only
      obtain ⟨RA, K⟩ := ThP.rel R0A x3
      rw [H9 r (K.i 53 (by decide))]
      exact bym RA hp hq hpq ep eq n1 n2 i2 (by rw [if_neg z, if_neg i0])
