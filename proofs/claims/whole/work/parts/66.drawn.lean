/-! years by draws -/
theorem ushr_n (z : Int32) : (∃ u, u < 2 ^ 31 ∧ ushr z 8 = nI u) ∧ (∃ u, u < 2 ^ 31 ∧ ushr z 16 = nI u) := by
  have hz := z.toBitVec.isLt
  refine ⟨⟨z.toBitVec.toNat / 2 ^ 8, by omega, ?_⟩, ⟨z.toBitVec.toNat / 2 ^ 16, by omega, ?_⟩⟩
  · apply Int32.toBitVec_inj.mp
    apply BitVec.eq_of_toNat_eq
    show (z.toBitVec >>> (8 : Nat)).toNat = (BitVec.ofNat 32 _).toNat
    rw [BitVec.toNat_ushiftRight, Nat.shiftRight_eq_div_pow, BitVec.toNat_ofNat, Nat.mod_eq_of_lt]
    omega
  · apply Int32.toBitVec_inj.mp
    apply BitVec.eq_of_toNat_eq
    show (z.toBitVec >>> (16 : Nat)).toNat = (BitVec.ofNat 32 _).toNat
    rw [BitVec.toNat_ushiftRight, Nat.shiftRight_eq_div_pow, BitVec.toNat_ofNat, Nat.mod_eq_of_lt]
    omega
def agS (s : Sc) (i : Nat) : Sc := (scN s, upN (scD s) i (scT s), upN (scF s) i false, scT s)
def pasS (s : Sc) : Sc := (scN s, scD s, scF s, min 99 (scT s + 1))
def dayS (f : Fo) (φ : Ph) (s : Sc) (z : Int32) : Sc := if foW f = 0 then pasS s else if scF s ((ushr z 8).toNatClampNeg % foW f) then pasS (agS s ((ushr z 8).toNatClampNeg % foW f)) else pasS (cal f φ s ((ushr z 8).toNatClampNeg % foW f) ((ushr z 16).toNatClampNeg % 12))
theorem pasS_ok {w : Nat} {s : Sc} (so : ScOk w s) : ScOk w (pasS s) := ⟨so.1, so.2.1, Nat.min_le_left _ _⟩
theorem agS_ok {w i : Nat} {s : Sc} (so : ScOk w s) : ScOk w (agS s i) := by
  refine ⟨so.1, fun j hj => ?_, so.2.2⟩
  show upN (scD s) i (scT s) j ≤ 99
  rw [upN_at]; split
  · exact so.2.2
  · exact so.2.1 j hj
theorem dayS_ok {f : Fo} {φ : Ph} {s : Sc} {w : Nat} (so : ScOk w s) (z : Int32) : ScOk w (dayS f φ s z) := by
  unfold dayS
  split
  · exact pasS_ok so
  · split
    · exact pasS_ok (agS_ok so)
    · exact pasS_ok (cal_ok so)
theorem pass_x {f : Fo} {φ : Ph} {s' : Sc} {h g : Hp} (so : ScOk (foW f) s') (T : ThX f φ s' h g) : ∃ r, f_X5_pass 17 1 g = some r ∧ ThX f φ (pasS s') h r := by
  have ht := so.2.2
  refine ⟨stI g 17 4 (nI (min 99 (scT s' + 1))), ?_, T.1.st (by decide), T.2.1, T.2.2.1, T.2.2.2.1, rfl⟩
  unfold f_X5_pass
  rw [if_pos (by decide), T.2.2.2.2, nl1, nI_add, nl99, nI_min (by decide) (by omega)]
  rfl
theorem live_x {f : Fo} {s s' : Sc} {φ : Ph} {h g : Hp} (R : RX f s φ h) (so : ScOk (foW f) s') (T : ThX f φ s' h g) (z : Int32) : Ev (f_X7_liveDay z g) fun r => ThX f φ (dayS f φ s' z) h r := by
  have hw := R.2.2.1.2.1
  have F := R.2.2.2.2.1.kp T.1 (by decide)
  obtain ⟨⟨u8, h8, e8⟩, u16, h16, e16⟩ := ushr_n z
  unfold f_X7_liveDay dayS
  rw [F.2.1, e8, e16, nI_clamp h8, nI_clamp h16]
  by_cases q : foW f = 0
  · rw [if_pos q, if_pos (by rw [q]; decide)]
    obtain ⟨r, r1, r2⟩ := pass_x so T
    rw [r1]; exact ev_some r2
  · have hi : u8 % foW f < foW f := Nat.mod_lt _ (by omega)
    rw [if_neg q, if_neg (by rw [nl0, nI_leI (by omega) (by decide)]; omega)]
    rw [show rmI (nI u8) (nI (foW f)) = some (nI (u8 % foW f)) from by unfold rmI; rw [if_neg (by rw [nl0, nI_eq (by omega) (by decide)]; exact q), nI_mod h8 (by omega)]]
    simp only [Option.bind_some]
    rw [isForg_x ok17 hw T.2 hi]
    simp only [Option.bind_some]
    cases e : scF s' (u8 % foW f) with
    | true =>
      rw [if_neg (by decide), if_pos rfl]
      unfold f_X5_doAgain
      rw [if_pos (by decide), setF0 ok17 hw T.2 hi]
      simp only [Option.bind_some]
      rw [show (stI g 17 3 (nI (msk (upN (scF s') (u8 % foW f) false) (foW f)))).1 17 4 = nI (scT s') from T.2.2.2.2, show pf 17 1 = 19 from rfl, wr_19 (by omega)]
      simp only [Option.bind_some]
      have T2 : ThX f φ (agS s' (u8 % foW f)) h (stI (stI g 17 3 (nI (msk (upN (scF s') (u8 % foW f) false) (foW f)))) 19 (u8 % foW f) (nI (scT s'))) := by
        refine ⟨(T.1.st (by decide)).st (by decide), T.2.1, fun j hj => ?_, rfl, T.2.2.2.2⟩
        show (stI _ 19 _ _).1 19 j = nI (upN (scD s') (u8 % foW f) (scT s') j)
        rw [stI_at, if_pos rfl, upN_at]
        by_cases y : j = u8 % foW f
        · rw [if_pos y, if_pos y]
        · rw [if_neg y, if_neg y]; exact T.2.2.1 j hj
      obtain ⟨r, r1, r2⟩ := pass_x (agS_ok so) T2
      rw [r1]; exact ev_some r2
    | false =>
      rw [if_pos (by decide), if_neg (by decide), nl12, nI_mod h16 (by decide)]
      refine ev_call (RX.call R so T hi (Nat.mod_lt _ (by decide))) (fun v hv => ?_)
      obtain ⟨r, r1, r2⟩ := pass_x (cal_ok so) hv.2
      rw [r1]; exact ev_some r2
theorem pass_m {f : Fo} {φ : Ph} {s s' : Sc} {c : Nat} {h g : Hp} (hc : c = 82 ∨ c = 83) (so : ScOk (foW f) s') (T : ThM f φ s s' c h g) : ∃ r, f_X8_passes g = some r ∧ ThM f φ s (pasS s') c h r := by
  have ht := so.2.2
  obtain ⟨K, e, S, k, k1, k2⟩ := T
  unfold f_X8_passes
  rw [S.2.2.2]
  by_cases q : 99 ≤ scT s'
  · have e99 : scT s' = 99 := by omega
    rw [if_pos (by rw [nl99]; exact nI_le q (by omega))]
    refine ⟨g, rfl, K, e, ⟨S.1, S.2.1, S.2.2.1, ?_⟩, k, k1, k2⟩
    rw [S.2.2.2]
    show nI (scT s') = nI (min 99 (scT s' + 1))
    exact congrArg nI (by omega)
  · rw [if_neg (by rw [nl99, nI_leI (by decide) (by omega)]; exact q), nl1, nI_add]
    refine ⟨_, rfl, K.st (by simp), fun j hj => by rw [stI_at, if_pos rfl, if_neg hj, e j hj], ⟨S.1, S.2.1, S.2.2.1, ?_⟩, k, k1, ?_⟩
    · show nI (scT s' + 1) = nI (min 99 (scT s' + 1))
      rw [Nat.min_eq_right (by omega)]
    · rw [← k2]; exact if_neg (by omega)
theorem live_m {f : Fo} {s s' : Sc} {φ : Ph} {h g : Hp} (R : RM f s φ h) (so : ScOk (foW f) s') (T : ThM f φ s s' 83 h g) {a2 a3 a5 a6 z : Int32} {d m : Nat} (ha : a2 % 100 = nI m) (hd : d < m) (hm : m ≤ 40) : Ev (b_X8_drawn_73 a2 a3 a5 a6 (z, nI d, g)) fun o => ∃ r, o = .inl (z * 1103515245 + 12345, nI (d + 1), r) ∧ ThM f φ s (dayS f φ s' (z * 1103515245 + 12345)) 83 h r := by
  have hw := R.2.2.1.2.1
  obtain ⟨F, L⟩ := RM.fo R (Or.inr rfl) T
  unfold b_X8_drawn_73
  rw [ha, if_neg (by rw [nI_leI (by omega) (by omega)]; omega)]
  simp only
  generalize z * 1103515245 + 12345 = y
  obtain ⟨⟨u8, h8, e8⟩, u16, h16, e16⟩ := ushr_n y
  unfold dayS
  rw [F.2.1, e8, e16, nI_clamp h8, nI_clamp h16]
  by_cases q : foW f = 0
  · rw [if_pos q, if_pos (by rw [q]; decide)]
    obtain ⟨r, r1, r2⟩ := pass_m (Or.inr rfl) so T
    rw [r1]; exact ev_some ⟨r, by rw [nl1, nI_add], r2⟩
  · have hi : u8 % foW f < foW f := Nat.mod_lt _ (by omega)
    rw [if_neg q, if_neg (by rw [nl0, nI_leI (by omega) (by decide)]; omega)]
    rw [show rmI (nI u8) (nI (foW f)) = some (nI (u8 % foW f)) from by unfold rmI; rw [if_neg (by rw [nl0, nI_eq (by omega) (by decide)]; exact q), nI_mod h8 (by omega)]]
    simp only [Option.bind_some]
    rw [rd_61 (by omega), T.2.2.1.2.2.1 _ hi]
    simp only [Option.bind_some]
    cases e : scF s' (u8 % foW f) with
    | true =>
      rw [if_pos (show nI (bI true) = 1 from rfl), if_pos rfl, wr_61 (by omega)]
      simp only [Option.bind_some]
      rw [show (stI g 61 (u8 % foW f) 0).1 53 10 = nI (scT s') from T.2.2.1.2.2.2, wr_60 (by omega)]
      simp only [Option.bind_some]
      have T2 : ThM f φ s (agS s' (u8 % foW f)) 83 h (stI (stI g 61 (u8 % foW f) 0) 60 (u8 % foW f) (nI (scT s'))) := by
        obtain ⟨K, e, S, k, k1, k2⟩ := T
        refine ⟨(K.st (by decide)).st (by decide), e, ⟨S.1, fun j hj => ?_, fun j hj => ?_, S.2.2.2⟩, k, k1, k2⟩
        · show (stI _ 60 _ _).1 60 j = nI (upN (scD s') (u8 % foW f) (scT s') j)
          rw [stI_at, if_pos rfl, upN_at]
          by_cases y : j = u8 % foW f
          · rw [if_pos y, if_pos y]
          · rw [if_neg y, if_neg y]; exact S.2.1 j hj
        · show (stI g 61 _ _).1 61 j = nI (bI (upN (scF s') (u8 % foW f) false j))
          rw [stI_at, if_pos rfl, upN_at]
          by_cases y : j = u8 % foW f
          · rw [if_pos y, if_pos y]; rfl
          · rw [if_neg y, if_neg y]; exact S.2.2.1 j hj
      obtain ⟨r, r1, r2⟩ := pass_m (Or.inr rfl) (agS_ok so) T2
      rw [r1]; exact ev_some ⟨r, by rw [nl1, nI_add], r2⟩
    | false =>
      rw [if_neg (by decide), if_neg (by decide), nl12, nI_mod h16 (by decide)]
      refine ev_call (RM.call R so (Or.inr rfl) T hi (Nat.mod_lt _ (by decide))) (fun v hv => ?_)
      obtain ⟨r, r1, r2⟩ := pass_m (Or.inr rfl) (cal_ok so) hv.2
      rw [r1]; exact ev_some ⟨r, by rw [nl1, nI_add], r2⟩
def dys (f : Fo) (φ : Ph) (z : Int32) (s : Sc) : Nat → Int32 × Sc
  | 0 => (z, s)
  | k + 1 => ((dys f φ z s k).1 * 1103515245 + 12345, dayS f φ (dys f φ z s k).2 ((dys f φ z s k).1 * 1103515245 + 12345))
theorem dys_ok {f : Fo} {φ : Ph} {z : Int32} {s : Sc} {w : Nat} (so : ScOk w s) : ∀ k, ScOk w (dys f φ z s k).2
  | 0 => so
  | k + 1 => dayS_ok (dys_ok so k) _
/-- what a year's end tells -/
def endI (a3 : Int32) (s : Sc) : Int32 := if a3 = -1 then sumN s 12 else nI (scN s a3.toNatClampNeg)
def yrs (f : Fo) (φ : Ph) (a3 : Int32) (z : Int32) (s : Sc) (m : Nat) : Nat → Int32 × Int32
  | 0 => (z, 0)
  | k + 1 => ((dys f φ (yrs f φ a3 z s m k).1 s m).1, (yrs f φ a3 z s m k).2 + endI a3 (dys f φ (yrs f φ a3 z s m k).1 s m).2)
def HsI (a3 : Int32) : Prop := a3 = -1 ∨ ∃ hs, hs < 12 ∧ a3 = nI hs
theorem yrs_x {f : Fo} {s : Sc} {φ : Ph} {h : Hp} (R : RX f s φ h) {a3 z : Int32} {n m : Nat} (hn : n ≤ 30) (hm : m ≤ 40) (h3 : HsI a3) : Ev (iter (b_X7_drawn_66 a3 (nI n) (nI m)) FU (z, 0, 0, h)) fun u => u.2.1 = (yrs f φ a3 z s m n).2 ∧ Kp [11, 12, 17, 18, 19, 20] h u.2.2.2 ∧ Thk 17 u.2.2.2 := by
  have so := R.2.2.2.1
  refine ev_for (k := 0) (fun y (u : Int32 × Int32 × Int32 × Hp) => u.1 = (yrs f φ a3 z s m y).1 ∧ u.2.1 = (yrs f φ a3 z s m y).2 ∧ u.2.2.1 = nI y ∧ RX f s φ u.2.2.2 ∧ Kp [11, 12, 17, 18, 19, 20] h u.2.2.2) n (fun y u hy hu => ?_) ⟨rfl, rfl, rfl, R, Kp.refl R.1⟩ (Nat.zero_le _) (by rw [FUe]; omega)
  obtain ⟨x1, x2, x3, g⟩ := u
  obtain ⟨p1, p2, p3, p4, p5⟩ := hu
  simp only at p1 p2 p3 p4 p5
  subst p3
  unfold b_X7_drawn_66
  by_cases q : n ≤ y
  · have e : y = n := by omega
    rw [if_pos (nI_le q (by omega))]
    exact ev_some ⟨by rw [← e]; exact p2, p5, p4.2.2.2.2.2.2.2⟩
  · rw [if_neg (by rw [nI_leI (by omega) (by omega)]; exact q)]
    obtain ⟨g1, e1, T1⟩ := RX.start p4
    simp only
    rw [e1]
    simp only [Option.bind_some]
    refine ev_call (P := fun v : Int32 × Int32 × Hp => v.1 = (dys f φ x1 s m).1 ∧ ThX f φ (dys f φ x1 s m).2 g v.2.2) (ev_for (k := 0) (fun d (v : Int32 × Int32 × Hp) => v.1 = (dys f φ x1 s d).1 ∧ v.2.1 = nI d ∧ ThX f φ (dys f φ x1 s d).2 g v.2.2) m (fun d v hd hv => ?_) ⟨rfl, rfl, T1⟩ (Nat.zero_le _) (by rw [FUe]; omega)) (fun v hv => ?_)
    · obtain ⟨y1, y2, y3⟩ := v
      obtain ⟨v1, v2, v3⟩ := hv
      simp only at v1 v2 v3
      subst v2
      unfold b_X7_drawn_87
      by_cases q2 : m ≤ d
      · have e : d = m := by omega
        rw [if_pos (nI_le q2 (by omega))]
        exact ev_some ⟨by rw [← e]; exact v1, by rw [← e]; exact v3⟩
      · rw [if_neg (by rw [nI_leI (by omega) (by omega)]; exact q2)]
        refine ev_call (live_x p4 (dys_ok so d) v3 (y1 * 1103515245 + 12345)) (fun r hr => ev_some ⟨by omega, ?_, by rw [nl1, nI_add], ?_⟩)
        · show y1 * 1103515245 + 12345 = _
          rw [v1]; rfl
        · rw [v1] at hr; exact hr
    · have so2 := dys_ok (f := f) (φ := φ) (z := x1) so m
      have K2 : Kp [11, 12, 17, 18, 19, 20] h v.2.2 := p5.trans hv.2.1
      have R2 : RX f s φ v.2.2 := p4.kp hv.2.1 (hv.2.thk R.2.2.1)
      have fin : ∀ t : Int32, t = endI a3 (dys f φ x1 s m).2 → Ev (some (Sum.inl (v.1, x2 + t, nI y + 1, v.2.2)) : Option ((Int32 × Int32 × Int32 × Hp) ⊕ (Int32 × Int32 × Int32 × Hp))) (Sum.elim (fun t : Int32 × Int32 × Int32 × Hp => y < n ∧ t.1 = (yrs f φ a3 z s m (y + 1)).1 ∧ t.2.1 = (yrs f φ a3 z s m (y + 1)).2 ∧ t.2.2.1 = nI (y + 1) ∧ RX f s φ t.2.2.2 ∧ Kp [11, 12, 17, 18, 19, 20] h t.2.2.2) (fun u : Int32 × Int32 × Int32 × Hp => u.2.1 = (yrs f φ a3 z s m n).2 ∧ Kp [11, 12, 17, 18, 19, 20] h u.2.2.2 ∧ Thk 17 u.2.2.2)) := by
        intro t ht
        refine ev_some ⟨by omega, ?_, ?_, by rw [nl1, nI_add], R2, K2⟩
        · show v.1 = (dys f φ (yrs f φ a3 z s m y).1 s m).1
          rw [← p1, hv.1]
        · show x2 + t = (yrs f φ a3 z s m y).2 + endI a3 (dys f φ (yrs f φ a3 z s m y).1 s m).2
          rw [← p1, p2, ht]
      rcases h3 with h3 | ⟨hs, hh, h3⟩
      · rw [if_pos h3]
        refine ev_call (total_x hv.2) (fun t ht => fin t ?_)
        unfold endI; rw [if_pos h3, ht]
      · have hrd : rdI v.2.2 18 a3 = some (nI (scN (dys f φ x1 s m).2 hs)) := by rw [h3, rd_18 hh, hv.2.2.n17 hh]
        rw [if_neg (by rw [h3]; exact nI_m1 (by omega)), hrd]
        simp only [Option.bind_some]
        refine fin _ ?_
        unfold endI; rw [if_neg (by rw [h3]; exact nI_m1 (by omega)), h3, nI_clamp (by omega)]
theorem yrs_m {f : Fo} {s : Sc} {φ : Ph} {h g0 : Hp} (R : RM f s φ h) (T0 : ThM f φ s s 83 h g0) {a2 a3 z : Int32} {n m : Nat} (hn : n ≤ 30) (hm : m ≤ 40) (e2 : a2 / 100 = nI n) (e3 : a2 % 100 = nI m) (h3 : HsI a3) : Ev (iter (b_X8_drawn_61 a2 a3) FU (z, 0, 0, g0)) fun u => u.2.1 = (yrs f φ a3 z s m n).2 ∧ ThM f φ s s 83 h u.2.2.2 := by
  have so := R.2.2.2.1
  refine ev_for (k := 0) (fun y (u : Int32 × Int32 × Int32 × Hp) => u.1 = (yrs f φ a3 z s m y).1 ∧ u.2.1 = (yrs f φ a3 z s m y).2 ∧ u.2.2.1 = nI y ∧ ThM f φ s s 83 h u.2.2.2) n (fun y u hy hu => ?_) ⟨rfl, rfl, rfl, T0⟩ (Nat.zero_le _) (by rw [FUe]; omega)
  obtain ⟨x1, x2, x3, g⟩ := u
  obtain ⟨p1, p2, p3, p4⟩ := hu
  simp only at p1 p2 p3 p4
  subst p3
  unfold b_X8_drawn_61
  rw [e2]
  by_cases q : n ≤ y
  · have e : y = n := by omega
    rw [if_pos (nI_le q (by omega))]
    exact ev_some ⟨by rw [← e]; exact p2, p4⟩
  · rw [if_neg (by rw [nI_leI (by omega) (by omega)]; exact q)]
    simp only
    refine ev_call (P := fun v : Int32 × Int32 × Hp => v.1 = (dys f φ x1 s m).1 ∧ ThM f φ s (dys f φ x1 s m).2 83 h v.2.2) (ev_for (k := 0) (fun d (v : Int32 × Int32 × Hp) => v.1 = (dys f φ x1 s d).1 ∧ v.2.1 = nI d ∧ ThM f φ s (dys f φ x1 s d).2 83 h v.2.2) m (fun d v hd hv => ?_) ⟨rfl, rfl, p4⟩ (Nat.zero_le _) (by rw [FUe]; omega)) (fun v hv => ?_)
    · obtain ⟨y1, y2, y3⟩ := v
      obtain ⟨v1, v2, v3⟩ := hv
      simp only at v1 v2 v3
      subst v2
      by_cases q2 : m ≤ d
      · have e : d = m := by omega
        unfold b_X8_drawn_73
        rw [e3, if_pos (nI_le q2 (by omega))]
        exact ev_some ⟨by rw [← e]; exact v1, by rw [← e]; exact v3⟩
      · refine ev_mono (live_m R (dys_ok so d) v3 (z := y1) e3 (by omega) hm) (fun o ho => ?_)
        obtain ⟨r, rfl, hr⟩ := ho
        refine ⟨by omega, ?_, rfl, ?_⟩
        · show y1 * 1103515245 + 12345 = _
          rw [v1]; rfl
        · rw [v1] at hr; exact hr
    · have so2 := dys_ok (f := f) (φ := φ) (z := x1) so m
      have fin : ∀ t : Int32, t = endI a3 (dys f φ x1 s m).2 → Ev ((f_X8_laysBack 83 v.2.2).bind fun r => (some (Sum.inl (v.1, x2 + t, nI y + 1, r)) : Option ((Int32 × Int32 × Int32 × Hp) ⊕ (Int32 × Int32 × Int32 × Hp)))) (Sum.elim (fun t : Int32 × Int32 × Int32 × Hp => y < n ∧ t.1 = (yrs f φ a3 z s m (y + 1)).1 ∧ t.2.1 = (yrs f φ a3 z s m (y + 1)).2 ∧ t.2.2.1 = nI (y + 1) ∧ ThM f φ s s 83 h t.2.2.2) (fun u : Int32 × Int32 × Int32 × Hp => u.2.1 = (yrs f φ a3 z s m n).2 ∧ ThM f φ s s 83 h u.2.2.2)) := by
        intro t ht
        refine ev_call (RM.stop R (Or.inr rfl) hv.2) (fun r hr => ev_some ⟨by omega, ?_, ?_, by rw [nl1, nI_add], ?_⟩)
        · show v.1 = (dys f φ (yrs f φ a3 z s m y).1 s m).1
          rw [← p1, hv.1]
        · show x2 + t = (yrs f φ a3 z s m y).2 + endI a3 (dys f φ (yrs f φ a3 z s m y).1 s m).2
          rw [← p1, p2, ht]
        · obtain ⟨r1, r2, r3, r4⟩ := hr
          obtain ⟨_, _, _, k, k1, k2⟩ := hv.2
          exact ⟨r2, fun j _ => r3 j, r1.2.2.2.2.2.1, k, k1, by rw [r4, k2]⟩
      rcases h3 with h3 | ⟨hs, hh, h3⟩
      · rw [if_pos h3]
        refine ev_call (total_m hv.2.2.2.1) (fun t ht => fin t ?_)
        unfold endI; rw [if_pos h3, ht]
      · have hrd : rdI v.2.2 54 a3 = some (nI (scN (dys f φ x1 s m).2 hs)) := by rw [h3, rd_54 hh, hv.2.2.2.1.1 hs hh]
        rw [if_neg (by rw [h3]; exact nI_m1 (by omega)), hrd]
        simp only [Option.bind_some]
        refine fin _ ?_
        unfold endI; rw [if_neg (by rw [h3]; exact nI_m1 (by omega)), h3, nI_clamp (by omega)]
theorem a_drawn (v w u : Int32) (h : Hp) (R : Rel h) : Ag (f_X7_drawn v w u h) (f_X8_drawn v w u) := by
  have R0 := R
  obtain ⟨f, s, φ, b, R0A⟩ := R
  have n10 : ¬ (1 : Int32) = 0 := by decide
  by_cases q : w < 0
  · refine ag_same R0 (v := -1) ?_ ?_
    · unfold f_X7_drawn; rw [if_pos q]
    · unfold f_X8_drawn; rw [if_pos q]
  have hs3 : (HsI u ∧ ¬ u < -1 ∧ u < 12 ∧ (u = -1 ∨ (¬ u = -1 ∧ f_X8_isHouse u = some 1))) ∨ ((u < -1 ∨ ¬ u < 12) ∧ ¬ u = -1 ∧ f_X8_isHouse u = some 0) := by
    by_cases e : u = -1
    · subst e; exact Or.inl ⟨Or.inl rfl, by decide, by decide, Or.inl rfl⟩
    · rcases house_c u with ⟨n, hn, rfl, e1, e2⟩ | ⟨e1, e2⟩
      · refine Or.inl ⟨Or.inr ⟨n, hn, rfl⟩, ?_, by rw [nl12]; exact nI_lt hn (by decide), Or.inr ⟨e, e2⟩⟩
        rw [Int32.lt_iff_toInt_lt, nI_toInt (by omega), show (-1 : Int32).toInt = -1 by decide]; omega
      · refine Or.inr ⟨?_, e, e2⟩
        rcases i32_split u with ⟨n, hn, rfl⟩ | hu
        · right
          intro hlt
          rw [nl12, nI_ltI hn (by decide)] at hlt
          unfold f_X7_isHouse at e1
          rw [if_neg (nI_pos hn), if_neg (by rw [nl12, nI_leI (by decide) hn]; omega)] at e1
          cases e1
        · left
          have h1 : u.toInt ≠ -1 := fun x => e (Int32.toInt_inj.mp (by rw [x]; decide))
          rw [Int32.lt_iff_toInt_lt, show (0 : Int32).toInt = 0 by decide] at hu
          rw [Int32.lt_iff_toInt_lt, show (-1 : Int32).toInt = -1 by decide]
          omega
  rcases rng_c 1 30 (by decide) (by decide) (w / 100) with ⟨n, en, n1, n2, n3, n4, n5⟩ | ⟨n3, n5⟩
  rotate_left
  · refine ag_same R0 (v := -1) ?_ ?_
    · unfold f_X7_drawn; rw [if_neg q]
      split
      · rfl
      · split
        · rcases n3 with n3 | n3
          · rw [if_pos (by rw [nl1]; exact n3)]
          · split
            · rfl
            · rw [if_pos]
              rcases i32_split (w / 100) with ⟨x, hx, ex⟩ | hx
              · rw [ex] at n3 ⊢
                rw [nI_leI hx (by decide)] at n3
                exact nI_lt (show 30 < x by omega) hx
              · rename_i y1
                exact absurd (neg_lt hx (n := 1) (by decide)) y1
        · rfl
    · unfold f_X8_drawn; rw [if_neg q, show f_X8_within (w / 100) 1 30 = some 0 from n5]; rfl
  rcases rng_c 1 40 (by decide) (by decide) (w % 100) with ⟨m, em, m1, m2, m3, m4, m5⟩ | ⟨m3, m5⟩
  rotate_left
  · refine ag_same R0 (v := -1) ?_ ?_
    · unfold f_X7_drawn; rw [if_neg q]
      split
      · rfl
      · split
        · split
          · rfl
          · split
            · rfl
            · rcases m3 with m3 | m3
              · rw [if_pos (by rw [nl1]; exact m3)]
              · split
                · rfl
                · rw [if_neg (show ¬ w % 100 ≤ 40 from m3)]
        · rfl
    · unfold f_X8_drawn; rw [if_neg q, show f_X8_within (w / 100) 1 30 = some 1 from n5]; simp only [Option.bind_some, if_neg n10]; rw [show f_X8_within (w % 100) 1 40 = some 0 from m5]; rfl
  have H8 : ∀ g : Hp, f_X8_drawn v w u g = if u = -1 then j_X8_drawn_44 v w u g else (f_X8_isHouse u).bind fun r27 => if r27 = 0 then some (-1, g) else j_X8_drawn_44 v w u g := by
    intro g
    unfold f_X8_drawn; rw [if_neg q, show f_X8_within (w / 100) 1 30 = some 1 from n5]; simp only [Option.bind_some, if_neg n10]; rw [show f_X8_within (w % 100) 1 40 = some 1 from m5]; simp only [Option.bind_some, if_neg n10]
  rcases hs3 with ⟨t1, t2, t3, t4⟩ | ⟨t1, t2, t3⟩
  rotate_left
  · refine ag_same R0 (v := -1) ?_ ?_
    · unfold f_X7_drawn; rw [if_neg q]
      rcases t1 with t1 | t1
      · rw [if_pos t1]
      · split
        · rfl
        · first | rfl | rw [if_neg t1]
    · rw [H8, if_neg t2, t3]; rfl
  have H9 : ∀ g : Hp, f_X8_drawn v w u g = j_X8_drawn_44 v w u g := by
    intro g
    rw [H8]
    rcases t4 with t4 | ⟨t4, t5⟩
    · rw [if_pos t4]
    · rw [if_neg t4, t5]; simp only [Option.bind_some, if_neg n10]
  unfold Ag f_X7_drawn
  rw [if_neg q, if_neg t2, if_pos t3, if_neg (show ¬ w / 100 < 1 from n3), if_neg (by rw [en]; exact nI_nlt (show n ≤ 30 by omega) (by decide)), if_neg (show ¬ w % 100 < 1 from m3), if_pos (show w % 100 ≤ 40 from m4), en, em]
  refine ev_call (yrs_x R0A.rx (z := v) n2 m2 t1) (fun r hr => ?_)
  obtain ⟨r1, r2, r3⟩ := hr
  refine ⟨_, rfl, ?_⟩
  simp only
  have RA := R0A.scr (r2.mono (by decide)) r3
  rw [H9]
  unfold j_X8_drawn_44
  refine ev_call (RM.start RA.rm (Or.inr rfl)) (fun g hg => ?_)
  refine ev_call (yrs_m RA.rm hg (z := v) n2 m2 en em t1) (fun x hx => ev_some ⟨by rw [r1, hx.1], f, s, φ, b, ?_⟩)
  obtain ⟨K, e, S, _⟩ := hx.2
  refine RA.up (K.mono (by decide)) e R0A.1.2.2.2 (RA.2.1.2.2.1.eq (K.i 13 (by decide)) (K.i 14 (by decide)) (K.i 15 (by decide))) S (RA.2.2.2.1.eq (K.i 16 (by decide)) (K.i 73 (by decide))) (RA.thk.eq (K.i 17 (by decide)))
