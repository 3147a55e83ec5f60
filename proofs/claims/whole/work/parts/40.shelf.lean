theorem cut_c {t : Nat} (ht : t < 5) (x : Int64) : ∃ y, f_X6_cut (nI t) x = some y ∧ f_X8_kept (nI t) x = some y ∧ (t = 1 → ∃ v : Int32, y = v.toInt64) := by
  match t, ht with
  | 0, _ => exact ⟨_, rfl, rfl, fun e => by cases e⟩
  | 1, _ => exact ⟨_, rfl, rfl, fun _ => ⟨_, rfl⟩⟩
  | 2, _ => exact ⟨_, rfl, rfl, fun e => by cases e⟩
  | 3, _ => exact ⟨_, rfl, rfl, fun e => by cases e⟩
  | 4, _ =>
    unfold f_X6_cut f_X8_kept
    by_cases q : lg_cmp x 0 = 0
    · exact ⟨0, by rw [if_neg (by decide), if_neg (by decide), if_neg (by decide), if_neg (by decide), if_pos q], by rw [if_neg (by decide), if_neg (by decide), if_neg (by decide), if_neg (by decide), if_pos q], fun e => by cases e⟩
    · exact ⟨1, by rw [if_neg (by decide), if_neg (by decide), if_neg (by decide), if_neg (by decide), if_neg q], by rw [if_neg (by decide), if_neg (by decide), if_neg (by decide), if_neg (by decide), if_neg q], fun e => by cases e⟩
theorem m1_eq : ((-1 : Int32) = -1) = True := by simp
theorem row_at {k : Nat} (hk : k < 6) : rdR 31 (nI k) = some (32 + k) := by
  match k, hk with
  | 0, _ => rfl
  | 1, _ => rfl
  | 2, _ => rfl
  | 3, _ => rfl
  | 4, _ => rfl
  | 5, _ => rfl
theorem row_sz {k : Nat} (hk : k < 6) : SL (32 + k) = 60 := by
  match k, hk with
  | 0, _ => rfl
  | 1, _ => rfl
  | 2, _ => rfl
  | 3, _ => rfl
  | 4, _ => rfl
  | 5, _ => rfl
theorem row_ne {k : Nat} (hk : k < 6) : 32 + k ≠ 81 := by omega
/-- the shelves have moved -/
theorem RelA.shv {f : Fo} {s : Sc} {φ : Ph} {b : Nat} {h h' : Hp} (R : RelA f s φ b h) (K : Kp [32, 33, 34, 35, 36, 37, 38, 39, 40, 79, 80, 81] h h') (hs : Shv b h') : RelA f s φ b h' := by
  obtain ⟨⟨r1, r2, r3, r4⟩, ⟨r5, r6, r7, r8⟩, ⟨r9, r10⟩, r11, r12, r13, r14, r15, r16⟩ := R
  have e53 : h'.1 53 = h.1 53 := K.i 53 (by decide)
  refine ⟨⟨K.1, r2, r3, r4⟩, ⟨r5.kp K (by decide), r6.kp K (by rw [e53]) (by rw [e53]) (by decide), r7.kp K (by decide) (by decide) (by decide), r8.kp K (by rw [e53]) (by decide)⟩, ⟨r9.kp K (by decide), r10.kp K (by rw [e53]) (by rw [e53]) (by decide)⟩, r11.eq (K.i _ (by decide)) (K.i _ (by decide)), r12.eq (by rw [K.i 7 (by decide)]) (by rw [e53]) (K.i _ (by decide)) (K.i _ (by decide)), r13.eq (K.i _ (by decide)) (K.i _ (by decide)) (K.i _ (by decide)) (K.i _ (by decide)) (K.i _ (by decide)) (K.i _ (by decide)) (K.i _ (by decide)) (by rw [e53]) (by rw [e53]) (K.i _ (by decide)), r14.eq (K.i _ (by decide)) (K.i _ (by decide)) (K.i _ (by decide)) (K.i _ (by decide)) (K.i _ (by decide)) (K.i _ (by decide)) (by rw [e53]) (by rw [e53]), hs, r16.eq (K.i _ (by decide)) (K.i _ (by decide)) (K.i _ (by decide)) (K.i _ (by decide)) (K.i _ (by decide)) (by rw [e53]) (by rw [e53])⟩
theorem nI_inj {a b : Nat} (ha : a < 2 ^ 31) (hb : b < 2 ^ 31) (h : nI a = nI b) : a = b := (nI_eq ha hb).mp h
theorem a_keep (v w : Int32) (h : Hp) (R : Rel h) : Ag (f_X7_keep v w h) (f_X8_keep v w) := by
  have R0 := R
  obtain ⟨f, s, φ, b, R0A⟩ := R
  obtain ⟨⟨r1, r2, r3, r4⟩, ⟨r5, r6, r7, r8⟩, ⟨r9, r10⟩, r11, r12, r13, r14, r15, ⟨d1, d2, d3, d4, d5⟩⟩ := id R0A
  have n10 : ¬ (1 : Int32) = 0 := by decide
  rcases shelf_c v with ⟨k, hk, rfl, e1, e2⟩ | ⟨e1, e2⟩
  · by_cases z : w = -1
    · subst z
      unfold Ag f_X7_keep f_X8_keep f_X6_setEmpty
      rw [e1]
      simp only [e2, Option.bind_some, if_neg n10]
      rw [if_pos trivial, wr_39 hk]
      simp only [Option.bind_some]
      rw [wr_38 hk]
      refine ⟨_, rfl, ?_⟩
      simp only
      rw [show (stI (stI h 39 k (-1)) 38 k 0).1 53 37 = nI b from d3, show f_X8_within (-1) (-1) (nI b - 1) = some 1 from by
        unfold f_X8_within
        rw [if_neg (by decide), if_neg]
        rcases Nat.eq_zero_or_pos b with q | q
        · subst q; decide
        · rw [show nI b - 1 = nI (b - 1) from by rw [nl1, nI_sub q], Int32.lt_iff_toInt_lt, nI_toInt (by omega), show (-1 : Int32).toInt = -1 by decide]; omega]
      simp only [Option.bind_some, if_neg n10]
      rw [if_neg (by decide), wr_79 hk]
      simp only [Option.bind_some]
      rw [wr_80 hk]
      refine ⟨_, rfl, rfl, f, s, φ, b, R0A.shv (((((Kp.refl r1).st (by decide)).st (by decide)).st (by decide)).st (by decide)) (fun j hj => ?_)⟩
      obtain ⟨w1, n, w2, w3, w4⟩ := r15 j hj
      by_cases z : j = k
      · subst z
        refine ⟨Or.inl ⟨by simp [stI_at], by simp [stI_at]⟩, 0, by decide, by simp [stI_at, nl0], by simp [stI_at, nl0]⟩
      · refine ⟨?_, n, w2, by simp [stI_at, z, w3], by simp [stI_at, z, w4]⟩
        unfold ShAt at w1 ⊢
        simpa [stI_at, z, stI_L] using w1
    · rcases i32_split w with ⟨n, hn, rfl⟩ | ha
      · by_cases q : n < b
        · unfold Ag f_X7_keep f_X8_keep f_X6_setDoor f_X1_isBody
          rw [e1]
          simp only [e2, Option.bind_some, if_neg n10]
          rw [if_neg z, if_neg (nI_pos hn), d2, if_neg (by rw [nI_leI (by omega) hn]; omega)]
          simp only [Option.bind_some, if_neg n10]
          rw [wr_39 hk]
          simp only [Option.bind_some]
          rw [wr_40 hk]
          simp only [Option.bind_some]
          rw [wr_38 hk]
          refine ⟨_, rfl, ?_⟩
          simp only
          rw [show (stI (stI (stI h 39 k (-2)) 40 k (nI n)) 38 k 0).1 53 37 = nI b from d3, show f_X8_within (nI n) (-1) (nI b - 1) = some 1 from by
            unfold f_X8_within
            rw [if_neg (by rw [Int32.lt_iff_toInt_lt, nI_toInt hn, show (-1 : Int32).toInt = -1 by decide]; omega), nl1, nI_sub (by omega), if_neg (nI_nlt (by omega) (by omega))]]
          simp only [Option.bind_some, if_neg n10]
          rw [if_pos (nI_pos' hn), nl10, nI_add, wr_79 hk]
          simp only [Option.bind_some]
          rw [wr_80 hk]
          refine ⟨_, rfl, rfl, f, s, φ, b, R0A.shv ((((((Kp.refl r1).st (by decide)).st (by decide)).st (by decide)).st (by decide)).st (by decide)) (fun j hj => ?_)⟩
          obtain ⟨w1, n', w2, w3, w4⟩ := r15 j hj
          by_cases z : j = k
          · subst z
            refine ⟨Or.inr (Or.inl ⟨by simp [stI_at], n, q, by simp [stI_at], by simp [stI_at]⟩), 0, by decide, by simp [stI_at, nl0], by simp [stI_at, nl0]⟩
          · refine ⟨?_, n', w2, by simp [stI_at, z, w3], by simp [stI_at, z, w4]⟩
            unfold ShAt at w1 ⊢
            simpa [stI_at, z, stI_L] using w1
        · refine ag_same R0 (v := -1) ?_ ?_
          · unfold f_X7_keep f_X1_isBody
            rw [e1]
            simp only [Option.bind_some, if_neg n10]
            rw [if_neg z, if_neg (nI_pos hn), d2, if_pos (nI_le (by omega) hn)]; rfl
          · unfold f_X8_keep
            rw [e2]
            simp only [Option.bind_some, if_neg n10]
            rw [d3, show f_X8_within (nI n) (-1) (nI b - 1) = some 0 from by
              unfold f_X8_within
              rw [if_neg (by rw [Int32.lt_iff_toInt_lt, nI_toInt hn, show (-1 : Int32).toInt = -1 by decide]; omega), if_pos]
              rcases Nat.eq_zero_or_pos b with q | q
              · subst q
                rw [show nI 0 - 1 = (-1 : Int32) by decide]
                exact nI_gtm hn
              · rw [nl1, nI_sub q]; exact nI_lt (by omega) hn]
            rfl
      · refine ag_same R0 (v := -1) ?_ ?_
        · unfold f_X7_keep f_X1_isBody
          rw [e1]
          simp only [Option.bind_some, if_neg n10]
          rw [if_neg z, if_pos ha]; rfl
        · unfold f_X8_keep
          rw [e2]
          simp only [Option.bind_some, if_neg n10]
          rw [show f_X8_within w (-1) (h.1 53 37 - 1) = some 0 from by
            unfold f_X8_within
            rw [if_pos]
            rw [Int32.lt_iff_toInt_lt] at ha ⊢
            have h1 : w.toInt ≠ -1 := fun e => z (Int32.toInt_inj.mp (by rw [e]; decide))
            rw [show (0 : Int32).toInt = 0 by decide] at ha
            rw [show (-1 : Int32).toInt = -1 by decide]
            omega]
          rfl
  · refine ag_same R0 (v := -1) ?_ ?_
    · unfold f_X7_keep; rw [e1]; rfl
    · unfold f_X8_keep; rw [e2]; rfl
