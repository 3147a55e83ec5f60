/-! the trace's cells behind an act -/
def tcl : List Int32 → Nat → (Nat → Int32) → Nat → Int32
  | [], _, c => c
  | v :: L, t, c => tcl L (t + 1) (if 24 ≤ t then c else upd c t v)
theorem tcl_eq : ∀ (L : List Int32) (t : Nat) (c c' : Nat → Int32), (∀ j, j < t → j < 24 → c j = c' j) → ∀ j, j < t + L.length → j < 24 → tcl L t c j = tcl L t c' j
  | [], t, c, c', h, j, hj, h24 => h j (by simpa using hj) h24
  | v :: L, t, c, c', h, j, hj, h24 => by
    have hl : (v :: L).length = L.length + 1 := rfl
    refine tcl_eq L (t + 1) _ _ (fun i hi hi24 => ?_) j (by omega) h24
    by_cases q : 24 ≤ t
    · rw [if_pos q, if_pos q]; exact h i (by omega) hi24
    · rw [if_neg q, if_neg q]
      by_cases e : i = t
      · rw [e, pk_us, pk_us]
      · rw [pk_un e, pk_un e]; exact h i (by omega) hi24
theorem trX_all {b K : Nat} : ∀ (L : List Int32) (t : Nat) (h : Hp), LR h → HX b K t h → t + L.length < 2000 → (trX L h).1 43 = tcl L t (h.1 43) ∧ (∀ j, j ≠ 3 → (trX L h).1 41 j = h.1 41 j) ∧ Kp [41, 43] h (trX L h)
  | [], _, h, q, _, _ => ⟨rfl, fun _ _ => rfl, Kp.refl q⟩
  | v :: L, t, h, q, H, hl => by
    have hl2 : (v :: L).length = L.length + 1 := rfl
    have K1 : Kp [41, 43] h (runX v h) := by
      unfold runX
      split
      · exact (Kp.refl q).st (by decide)
      · exact ((Kp.refl q).st (by decide)).st (by decide)
    obtain ⟨a1, a2, a3⟩ := trX_all L (t + 1) (runX v h) K1.1 (runX_HX H v) (by omega)
    refine ⟨?_, fun j hj => ?_, K1.trans a3⟩
    · show (trX L (runX v h)).1 43 = tcl L (t + 1) _
      rw [a1]
      congr 1
      unfold runX
      rw [H.2.2]
      by_cases z : 24 ≤ t
      · rw [if_pos z, if_pos (by rw [nl24]; exact nI_le z (by omega))]; rfl
      · rw [if_neg z, if_neg (by rw [nl24, nI_leI (by decide) (by omega)]; exact z), nI_clamp (by omega)]; rfl
    · show (trX L (runX v h)).1 41 j = _
      rw [a2 j hj]
      unfold runX
      rw [stI_at, if_pos rfl, if_neg hj]
      split <;> rfl
theorem trM_all {b K : Nat} : ∀ (L : List Int32) (t : Nat) (h : Hp), LR h → HM b K t h → t + L.length < 2000 → (trM L h).1 78 = tcl L t (h.1 78) ∧ (∀ j, j ≠ 39 → (trM L h).1 53 j = h.1 53 j) ∧ Kp [53, 78] h (trM L h)
  | [], _, h, q, _, _ => ⟨rfl, fun _ _ => rfl, Kp.refl q⟩
  | v :: L, t, h, q, H, hl => by
    have hl2 : (v :: L).length = L.length + 1 := rfl
    have K1 : Kp [53, 78] h (runM v h) := by
      unfold runM
      split
      · exact (Kp.refl q).st (by decide)
      · exact ((Kp.refl q).st (by decide)).st (by decide)
    obtain ⟨a1, a2, a3⟩ := trM_all L (t + 1) (runM v h) K1.1 (runM_HM H v) (by omega)
    refine ⟨?_, fun j hj => ?_, K1.trans a3⟩
    · show (trM L (runM v h)).1 78 = tcl L (t + 1) _
      rw [a1]
      congr 1
      unfold runM
      rw [H.2]
      by_cases z : 24 ≤ t
      · rw [if_pos z, if_pos (by rw [nl24]; exact nI_le z (by omega))]; rfl
      · rw [if_neg z, if_neg (by rw [nl24, nI_leI (by decide) (by omega)]; exact z), nI_clamp (by omega)]; rfl
    · show (trM L (runM v h)).1 53 j = _
      rw [a2 j hj]
      unfold runM
      rw [stI_at, if_pos rfl, if_neg hj]
      split <;> rfl
def actP (b : Int32) (K d : Nat) (x : Int32) : Int32 × List Int32 := match d with
  | 0 => opP b K x
  | 1 => ctP b K K x
  | 2 => slP b K K x
  | _ => tlP b K K x
theorem act_len (b : Int32) (K d : Nat) (x : Int32) : (actP b K d x).2.length ≤ 14 := by
  unfold actP; split
  · have := op_len b K x; omega
  · have := ct_len b K K x; omega
  · have := sl_len b K K x; omega
  · exact tl_len b K K x
theorem from_x {b K d : Nat} {x : Int32} {h : Hp} (hK : K < 8) (hd : d < 4) (H : HX b K 0 h) : f_X1_from (nI K) (nI d) x 0 h = some ((actP (nI b) K d x).1, trX (actP (nI b) K d x).2 h) := by
  match d, hd with
  | 0, _ => exact opX (F := 56) (dep := 0) hK (by decide) H (by decide)
  | 1, _ => exact ctX (F := 50) (dep := 0) hK hK (by decide) H (by decide)
  | 2, _ => exact slX (F := 54) (dep := 0) hK hK (by decide) H (by decide)
  | 3, _ => exact tlX (F := 46) (dep := 0) hK hK (by decide) H (by decide)
theorem a_act (v w u : Int32) (h : Hp) (R : Rel h) : Ag (f_X7_act v w u h) (f_X8_act v w u) := by
  have R0 := R
  obtain ⟨f, s, φ, b, R0A⟩ := R
  obtain ⟨d1, d2, d3, d4, d5⟩ := R0A.2.2.2.2.2.2.2.2
  have r1 := R0A.1.1
  have n10 : ¬ (1 : Int32) = 0 := by decide
  have K1 : Kp [41, 43, 53, 78] h (stI h 41 3 0) := (Kp.refl r1).st (by decide)
  -- no such door, no such act
  have none' : Rel (stI (stI h 41 3 0) 53 39 0) := by
    refine ⟨f, s, φ, b, R0A.trc (K1.st (by decide)) (fun j hj => by rw [stI_at, if_pos rfl, if_neg hj]; rfl) ⟨d1, ?_, ?_, fun i hi => ?_, 0, by decide, rfl, rfl, fun i hi => absurd hi (Nat.not_lt_zero i)⟩⟩
    · show (stI h 41 3 0).1 41 0 = nI b
      rw [stI_at, if_pos rfl, if_neg (by decide), d2]
    · show (stI (stI h 41 3 0) 53 39 0).1 53 37 = nI b
      rw [stI_at, if_pos rfl, if_neg (by decide)]; exact d3
    · exact d4 i hi
  have e37 : (stI (stI h 41 3 0) 53 39 0).1 53 37 = nI b := by rw [stI_at, if_pos rfl, if_neg (by decide)]; exact d3
  have e410 : (stI h 41 3 0).1 41 0 = nI b := by rw [stI_at, if_pos rfl, if_neg (by decide), d2]
  have out : ∀ o : Option (Int32 × Hp), f_X7_act v w u h = o → o = some (0, stI h 41 3 0) → f_X8_act v w u (stI h 41 3 0) = some (0, stI (stI h 41 3 0) 53 39 0) → Ag (f_X7_act v w u h) (f_X8_act v w u) := by
    intro o e1 e2 e3
    exact ⟨_, e1.trans e2, _, e3, rfl, none'⟩
  have body : (∃ i, i < b ∧ v = nI i ∧ f_X1_isBody v (stI h 41 3 0) = some 1 ∧ ∀ g : Hp, g.1 53 37 = nI b → f_X8_within v 0 ((g.1 53 37) - 1) = some 1) ∨ (f_X1_isBody v (stI h 41 3 0) = some 0 ∧ f_X8_within v 0 (nI b - 1) = some 0) := by
    unfold f_X1_isBody
    rw [e410]
    rcases i32_split v with ⟨i, hi, rfl⟩ | hv
    · by_cases q : i < b
      · left
        refine ⟨i, q, rfl, ?_, fun g hg => ?_⟩
        · rw [if_neg (nI_pos hi), if_neg (by rw [nI_leI (by omega) hi]; omega)]
        · rw [hg, within_p1 q (by omega)]
      · right
        refine ⟨?_, within_p0 (by omega) hi⟩
        rw [if_neg (nI_pos hi), if_pos (nI_le (by omega) hi)]
    · right
      exact ⟨by rw [if_pos hv], by rw [nl0, within_neg hv (by decide)]; rfl⟩
  rcases body with ⟨i, hi, rfl, b1, b2⟩ | ⟨b1, b2⟩
  rotate_left
  · refine out _ rfl ?_ ?_
    · unfold f_X7_act f_X1_perform; simp only [lt]; rw [b1]; rfl
    · unfold f_X8_act; simp only [lt]; rw [e37, b2]; rfl
  rcases quarter_c w with ⟨d, hd, rfl, q1, q2, q3⟩ | ⟨q1, q2⟩
  rotate_left
  · refine out _ rfl ?_ ?_
    · unfold f_X7_act f_X1_perform; simp only [lt]; rw [b1]; simp only [Option.bind_some, if_neg n10]
      rcases q2 with q2 | q2
      · rw [if_pos q2]; rfl
      · have q3 : ¬ w < 4 := by
          intro x
          apply q2
          rw [Int32.lt_iff_toInt_lt, show (4 : Int32).toInt = 4 by decide] at x
          rw [Int32.le_iff_toInt_le, show (3 : Int32).toInt = 3 by decide]
          omega
        rw [if_neg q3]
        split <;> rfl
    · unfold f_X8_act; simp only [lt]; rw [b2 _ e37]; simp only [Option.bind_some, if_neg n10]; rw [q1]; rfl
  obtain ⟨k, k1, k2, k3⟩ := d4 i hi
  unfold Ag f_X7_act f_X1_perform
  simp only [lt]
  rw [b1]
  simp only [Option.bind_some, if_neg n10]
  rw [if_neg q2, if_pos (by rw [nl4]; exact nI_lt (by omega) (by decide)), rd_42 (by omega), show (stI (stI h 41 3 0) 41 4 (nI i)).1 42 i = nI k from k2]
  simp only [Option.bind_some]
  have H8 : HX i k 0 (stI (stI (stI h 41 3 0) 41 4 (nI i)) 41 5 (nI k)) := ⟨rfl, rfl, rfl⟩
  have K8 : Kp [41, 43, 53, 78] h (stI (stI (stI h 41 3 0) 41 4 (nI i)) 41 5 (nI k)) := (K1.st (by decide)).st (by decide)
  have c0 : (stI (stI (stI h 41 3 0) 41 4 (nI i)) 41 5 (nI k)).1 41 0 = nI b := by
    rw [stI_at, if_pos rfl, if_neg (by decide), stI_at, if_pos rfl, if_neg (by decide), e410]
  generalize hg8 : stI (stI (stI h 41 3 0) 41 4 (nI i)) 41 5 (nI k) = g8 at H8 K8 c0
  rw [H8.2.1, from_x k1 hd H8]
  have hlen := act_len (nI i) k d u
  obtain ⟨x1, x2, x3⟩ := trX_all (actP (nI i) k d u).2 0 g8 K8.1 H8 (by omega)
  have x4 := trX_HX (actP (nI i) k d u).2 0 g8 H8
  refine ⟨_, rfl, ?_⟩
  simp only
  have g53 : ∀ j, (trX (actP (nI i) k d u).2 g8).1 53 j = h.1 53 j := by
    intro j
    rw [x3.i 53 (by decide), ← hg8]; rfl
  have g42 : (trX (actP (nI i) k d u).2 g8).1 42 = h.1 42 := by rw [x3.i 42 (by decide), K8.i 42 (by decide)]
  have g77 : (trX (actP (nI i) k d u).2 g8).1 77 = h.1 77 := by rw [x3.i 77 (by decide), K8.i 77 (by decide)]
  have K9 : Kp [41, 43, 53, 78] h (trX (actP (nI i) k d u).2 g8) := K8.trans (x3.mono (by decide))
  generalize hG : trX (actP (nI i) k d u).2 g8 = G at x1 x2 x3 x4 g53 g42 g77 K9
  have HM0 : HM i k 0 (stI G 53 39 0) := ⟨by show G.1 77 i = _; rw [g77]; exact k3, rfl⟩
  have e8 : f_X8_act (nI i) (nI d) u G = some ((actP (nI i) k d u).1, trM (actP (nI i) k d u).2 (stI G 53 39 0)) := by
    unfold f_X8_act
    simp only [lt]
    have e37' : (stI G 53 39 0).1 53 37 = nI b := by rw [stI_at, if_pos rfl, if_neg (by decide), g53]; exact d3
    rw [b2 _ e37']
    simp only [Option.bind_some, if_neg n10]
    rw [q1]
    simp only [Option.bind_some, if_neg n10]
    rw [rd_77 (by omega), HM0.1]
    simp only [Option.bind_some]
    have hb50 : i < 50 := by omega
    match d, hd with
    | 0, _ =>
      rw [if_pos (by decide), opM k1 HM0 (by decide)]; rfl
    | 1, _ =>
      rw [if_neg (by decide), if_pos (by decide), ctM k1 k1 HM0 hb50 (by decide)]; rfl
    | 2, _ =>
      rw [if_neg (by decide), if_neg (by decide), if_pos (by decide), slM k1 k1 HM0 hb50 (by decide)]; rfl
    | 3, _ =>
      rw [if_neg (by decide), if_neg (by decide), if_neg (by decide), tlM k1 k1 HM0 hb50 (by decide)]; rfl
  rw [e8]
  obtain ⟨y1, y2, y3⟩ := trM_all (actP (nI i) k d u).2 0 (stI G 53 39 0) ((K9.st (by decide)).1) HM0 (by omega)
  have y4 := trM_HM (actP (nI i) k d u).2 0 (stI G 53 39 0) HM0
  refine ⟨_, rfl, rfl, f, s, φ, b, R0A.trc ((K9.st (by decide)).trans (y3.mono (by decide))) (fun j hj => ?_) ⟨d1, ?_, ?_, fun j hj => ?_, 0 + (actP (nI i) k d u).2.length, by omega, ?_, y4.2, fun j hj h24 => ?_⟩⟩
  · show (trM _ (stI G 53 39 0)).1 53 j = _
    rw [y2 j hj, stI_at, if_pos rfl, if_neg hj, g53]
  · rw [y3.i 41 (by decide)]
    show G.1 41 0 = nI b
    rw [x2 0 (by decide), c0]
  · rw [y2 37 (by decide), stI_at, if_pos rfl, if_neg (by decide), g53]; exact d3
  · obtain ⟨k', z1, z2, z3⟩ := d4 j hj
    refine ⟨k', z1, ?_, ?_⟩
    · rw [y3.i 42 (by decide)]; show G.1 42 j = _; rw [g42, z2]
    · rw [y3.i 77 (by decide)]; show G.1 77 j = _; rw [g77, z3]
  · rw [y3.i 41 (by decide)]; exact x4.2.2
  · rw [y3.i 43 (by decide), y1]
    show G.1 43 j = _
    rw [x1]
    exact tcl_eq _ 0 _ _ (fun i hi => absurd hi (Nat.not_lt_zero i)) j hj h24
