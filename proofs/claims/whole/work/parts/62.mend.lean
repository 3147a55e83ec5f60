/-! a change is noted, on both sides -/
def oldI (d i : Nat) : Nat := if d = 40 then i + 1 else i
def slotI (d : Nat) : Nat := if d = 40 then 39 else d
theorem drop_x {h : Hp} (q : LR h) (hd : h.1 25 5 = nI 40) : ∃ h1, f_X0_dropOldest h = some h1 ∧ h1.1 25 5 = nI 39 ∧ (∀ c, 26 ≤ c → c ≤ 29 → ∀ i, i < 39 → h1.1 c i = h.1 c (i + 1)) ∧ Kp [25, 26, 27, 28, 29] h h1 := by
  unfold f_X0_dropOldest
  rw [nl1, nl0, nl39]
  rw [cpI_n (by rw [sz_26]; decide) (by rw [sz_26]; decide) (by rw [sz_26]; decide) (by rw [sz_26]; decide) (by rw [sz_26]; decide) (by rw [sz_26]; decide)]
  simp only [Option.bind_some]
  rw [cpI_n (by rw [sz_27]; decide) (by rw [sz_27]; decide) (by rw [sz_27]; decide) (by rw [sz_27]; decide) (by rw [sz_27]; decide) (by rw [sz_27]; decide)]
  simp only [Option.bind_some]
  rw [cpI_n (by rw [sz_28]; decide) (by rw [sz_28]; decide) (by rw [sz_28]; decide) (by rw [sz_28]; decide) (by rw [sz_28]; decide) (by rw [sz_28]; decide)]
  simp only [Option.bind_some]
  rw [cpI_n (by rw [sz_29]; decide) (by rw [sz_29]; decide) (by rw [sz_29]; decide) (by rw [sz_29]; decide) (by rw [sz_29]; decide) (by rw [sz_29]; decide)]
  simp only [Option.bind_some, lt]
  refine ⟨_, rfl, ?_, fun c h1 h2 i hi => ?_, (((((Kp.refl q).up (by decide)).up (by decide)).up (by decide)).up (by decide)).st (by decide)⟩
  · rw [stI_at, if_pos rfl, if_pos rfl]
    rw [upI_at, if_neg (by decide), upI_at, if_neg (by decide), upI_at, if_neg (by decide), upI_at, if_neg (by decide), hd]
    decide
  · have hv : ∀ g : Nat → Int32, va_cpy g g 1 0 39 i = g (i + 1) := by
      intro g
      unfold va_cpy
      rw [if_pos (by omega)]
      congr 1
      omega
    have hc : c = 26 ∨ c = 27 ∨ c = 28 ∨ c = 29 := by omega
    rcases hc with rfl | rfl | rfl | rfl
    · rw [stI_at, if_neg (by decide), upI_at, if_neg (by decide), upI_at, if_neg (by decide), upI_at, if_neg (by decide), upI_at, if_pos rfl, hv]
    · rw [stI_at, if_neg (by decide), upI_at, if_neg (by decide), upI_at, if_neg (by decide), upI_at, if_pos rfl, hv]; rfl
    · rw [stI_at, if_neg (by decide), upI_at, if_neg (by decide), upI_at, if_pos rfl, hv]; rfl
    · rw [stI_at, if_neg (by decide), upI_at, if_pos rfl, hv]; rfl
theorem note_j {h : Hp} (q : LR h) {d : Nat} (hd : d < 40) (h5 : h.1 25 5 = nI d) (a c e g : Int32) : ∃ h1, j_X0_note_13 a c e g h = some h1 ∧ h1.1 25 5 = nI (d + 1) ∧ h1.1 25 4 = nI (d + 1) ∧ (∀ i, h1.1 26 i = if i = d then a else h.1 26 i) ∧ (∀ i, h1.1 27 i = if i = d then c else h.1 27 i) ∧ (∀ i, h1.1 28 i = if i = d then e else h.1 28 i) ∧ (∀ i, h1.1 29 i = if i = d then g else h.1 29 i) ∧ Kp [25, 26, 27, 28, 29] h h1 := by
  unfold j_X0_note_13
  rw [h5, wr_26 hd]
  simp only [Option.bind_some]
  rw [show (stI h 26 d a).1 25 5 = nI d from h5, wr_27 hd]
  simp only [Option.bind_some]
  rw [show (stI (stI h 26 d a) 27 d c).1 25 5 = nI d from h5, wr_28 hd]
  simp only [Option.bind_some]
  rw [show (stI (stI (stI h 26 d a) 27 d c) 28 d e).1 25 5 = nI d from h5, wr_29 hd]
  simp only [Option.bind_some, lt]
  rw [show (stI (stI (stI (stI h 26 d a) 27 d c) 28 d e) 29 d g).1 25 5 = nI d from h5, nI_1]
  refine ⟨_, rfl, rfl, rfl, fun i => ?_, fun i => ?_, fun i => ?_, fun i => ?_, ((((((Kp.refl q).st (by decide)).st (by decide)).st (by decide)).st (by decide)).st (by decide)).st (by decide)⟩ <;> simp [stI_at]
theorem note_x {h : Hp} (q : LR h) {d : Nat} (hd : d ≤ 40) (h5 : h.1 25 5 = nI d) (a c e g : Int32) : ∃ h1, f_X0_note a c e g h = some h1 ∧ h1.1 25 5 = nI (slotI d + 1) ∧ h1.1 25 4 = nI (slotI d + 1) ∧ (∀ i, i ≤ slotI d → h1.1 26 i = (if i = slotI d then a else h.1 26 (oldI d i)) ∧ h1.1 27 i = (if i = slotI d then c else h.1 27 (oldI d i)) ∧ h1.1 28 i = (if i = slotI d then e else h.1 28 (oldI d i)) ∧ h1.1 29 i = (if i = slotI d then g else h.1 29 (oldI d i))) ∧ Kp [25, 26, 27, 28, 29] h h1 := by
  unfold f_X0_note slotI oldI
  by_cases z : d = 40
  · subst z
    rw [if_pos (by rw [h5]; rfl), if_pos rfl]
    obtain ⟨h1, t1, t2, t3, t4⟩ := drop_x q h5
    rw [t1]
    simp only [Option.bind_some]
    obtain ⟨h2, u1, u2, u3, u4, u5, u6, u7, u8⟩ := note_j t4.1 (by decide) t2 a c e g
    refine ⟨h2, u1, u2, u3, fun i hi => ?_, t4.trans u8⟩
    rw [u4, u5, u6, u7]
    simp only [if_true]
    by_cases y : i = 39
    · simp only [if_pos y]; exact ⟨trivial, trivial, trivial, trivial⟩
    · simp only [if_neg y]
      exact ⟨t3 26 (by decide) (by decide) i (by omega), t3 27 (by decide) (by decide) i (by omega), t3 28 (by decide) (by decide) i (by omega), t3 29 (by decide) (by decide) i (by omega)⟩
  · rw [if_neg (by rw [h5, nl40, nI_eq (by omega) (by decide)]; exact z), if_neg z]
    obtain ⟨h2, u1, u2, u3, u4, u5, u6, u7, u8⟩ := note_j q (by omega) h5 a c e g
    refine ⟨h2, u1, u2, u3, fun i hi => ?_, u8⟩
    rw [u4, u5, u6, u7, if_neg z]
    exact ⟨rfl, rfl, rfl, rfl⟩
theorem mloop_m {h : Hp} (q : LR h) (a1 a2 a3 a4 : Int32) : Ev (iter (b_X8_mend_56 a1 a2 a3 a4) FU (0, h)) fun s' : Int32 × Hp => (∀ i, i < 156 → s'.2.1 76 i = h.1 76 (i + 4)) ∧ Kp [76] h s'.2 := by
  refine ev_for (k := 0) (fun m (s' : Int32 × Hp) => s'.1 = nI m ∧ (∀ i, i < 160 → s'.2.1 76 i = if i < m then h.1 76 (i + 4) else h.1 76 i) ∧ Kp [76] h s'.2) 156 (fun m s' hm hP => ?_) ⟨rfl, fun i _ => by rw [if_neg (by omega)], Kp.refl q⟩ (Nat.zero_le _) (by rw [FUe]; decide)
  obtain ⟨x, g⟩ := s'
  obtain ⟨p1, p2, p3⟩ := hP
  simp only at p1 p2 p3
  subst p1
  unfold b_X8_mend_56
  by_cases z : 156 ≤ m
  · rw [if_pos (by rw [nl156]; exact nI_le z (by omega))]
    have : m = 156 := by omega
    subst this
    exact ev_some ⟨fun i hi => by show g.1 76 i = _; rw [p2 i (by omega), if_pos hi], p3⟩
  · rw [if_neg (by rw [nl156, nI_leI (by decide) (by omega)]; exact z), nl4, nI_add, rd_76 (by omega)]
    simp only [Option.bind_some]
    rw [wr_76 (by omega)]
    refine ev_some ⟨by omega, by rw [nl1, nI_add], fun i hi => ?_, p3.st (by decide)⟩
    show (stI g 76 m _).1 76 i = _
    rw [stI_at, if_pos rfl]
    by_cases y : i = m
    · subst y
      rw [if_pos rfl, if_pos (by omega), p2 _ (by omega), if_neg (by omega)]
    · rw [if_neg y, p2 i hi]
      by_cases y2 : i < m
      · rw [if_pos y2, if_pos (by omega)]
      · rw [if_neg y2, if_neg (by omega)]
theorem mnote_j {h : Hp} (q : LR h) {d : Nat} (hd : d < 40) (h5 : h.1 53 35 = nI d) (a c e g : Int32) : ∃ h1, j_X8_mend_96 a c g e h = some (e, h1) ∧ h1.1 53 35 = nI (d + 1) ∧ h1.1 53 34 = nI (d + 1) ∧ (∀ i, h1.1 76 i = if i = 4 * d then a else if i = 4 * d + 1 then c else if i = 4 * d + 2 then e else if i = 4 * d + 3 then g else h.1 76 i) ∧ (∀ j, j ≠ 34 → j ≠ 35 → h1.1 53 j = h.1 53 j) ∧ Kp [53, 76] h h1 := by
  unfold j_X8_mend_96
  rw [h5, nl4, nI_mul, wr_76 (by omega)]
  simp only [Option.bind_some]
  rw [show (stI h 76 (4 * d) a).1 53 35 = nI d from h5, nI_mul, nl1, nI_add, wr_76 (by omega)]
  simp only [Option.bind_some]
  rw [show (stI (stI h 76 (4 * d) a) 76 (4 * d + 1) c).1 53 35 = nI d from h5, nI_mul, nl2, nI_add, wr_76 (by omega)]
  simp only [Option.bind_some]
  rw [show (stI (stI (stI h 76 (4 * d) a) 76 (4 * d + 1) c) 76 (4 * d + 2) e).1 53 35 = nI d from h5, nI_mul, nl3, nI_add, wr_76 (by omega)]
  simp only [Option.bind_some, lt]
  rw [show (stI (stI (stI (stI h 76 (4 * d) a) 76 (4 * d + 1) c) 76 (4 * d + 2) e) 76 (4 * d + 3) g).1 53 35 = nI d from h5, nI_add]
  refine ⟨_, rfl, rfl, rfl, fun i => ?_, fun j h1 h2 => ?_, ((((((Kp.refl q).st (by decide)).st (by decide)).st (by decide)).st (by decide)).st (by decide)).st (by decide)⟩
  · simp only [stI_at, if_true, if_false, show ((76 : Nat) = 53) = False by decide]
    by_cases y3 : i = 4 * d + 3
    · simp [y3]
    by_cases y2 : i = 4 * d + 2
    · simp [y2]
    by_cases y1 : i = 4 * d + 1
    · simp [y1]
    simp [y1, y2, y3]
  · simp [stI_at, h1, h2]
/-- what the reference notes -/
def mnote (a c g e : Int32) (h : Hp) : Option (Int32 × Hp) := if (h.1 53 35) = 40 then (iter (b_X8_mend_56 a c g e) FU (0, h)).bind fun a18 => lt (stI a18.2 53 35 ((a18.2.1 53 35) - 1)) fun h19 => j_X8_mend_96 a c g e h19 else j_X8_mend_96 a c g e h
theorem mnote_m {h : Hp} (q : LR h) {d : Nat} (hd : d ≤ 40) (h5 : h.1 53 35 = nI d) (a c e g : Int32) : Ev (mnote a c g e h) fun r => r.1 = e ∧ r.2.1 53 35 = nI (slotI d + 1) ∧ r.2.1 53 34 = nI (slotI d + 1) ∧ (∀ i, i ≤ slotI d → r.2.1 76 (4 * i) = (if i = slotI d then a else h.1 76 (4 * oldI d i)) ∧ r.2.1 76 (4 * i + 1) = (if i = slotI d then c else h.1 76 (4 * oldI d i + 1)) ∧ r.2.1 76 (4 * i + 2) = (if i = slotI d then e else h.1 76 (4 * oldI d i + 2)) ∧ r.2.1 76 (4 * i + 3) = (if i = slotI d then g else h.1 76 (4 * oldI d i + 3))) ∧ (∀ j, j ≠ 34 → j ≠ 35 → r.2.1 53 j = h.1 53 j) ∧ Kp [53, 76] h r.2 := by
  unfold mnote slotI oldI
  by_cases z : d = 40
  · subst z
    rw [if_pos (by rw [h5]; rfl), if_pos rfl]
    refine ev_call (mloop_m q a c g e) (fun v hv => ?_)
    obtain ⟨v1, v2⟩ := hv
    have e53 : v.2.1 53 = h.1 53 := v2.i 53 (by decide)
    simp only [lt]
    rw [e53, h5, nl1, nI_sub (by decide)]
    have K0 : Kp [53, 76] h (stI v.2 53 35 (nI (40 - 1))) := (v2.mono (by decide)).st (by decide)
    obtain ⟨h2, u1, u2, u3, u4, u5, u6⟩ := mnote_j (h := stI v.2 53 35 (nI (40 - 1))) K0.1 (d := 39) (by decide) rfl a c e g
    refine ⟨(e, h2), u1, rfl, u2, u3, fun i hi => ?_, fun j h1 h2' => ?_, K0.trans u6⟩
    · simp only [if_pos]
      rw [u4, u4, u4, u4]
      by_cases y : i = 39
      · subst y
        simp
      · rw [if_neg y, if_neg y, if_neg y, if_neg y]
        have o : ∀ c, c < 4 → (stI v.2 53 35 (nI (40 - 1))).1 76 (4 * i + c) = h.1 76 (4 * (i + 1) + c) := by
          intro c hc
          show v.2.1 76 (4 * i + c) = _
          rw [v1 _ (by omega)]
          refine congrArg (h.1 76) ?_
          omega
        refine ⟨?_, ?_, ?_, ?_⟩
        · rw [if_neg (by omega), if_neg (by omega), if_neg (by omega), if_neg (by omega)]; exact o 0 (by decide)
        · rw [if_neg (by omega), if_neg (by omega), if_neg (by omega), if_neg (by omega)]; exact o 1 (by decide)
        · rw [if_neg (by omega), if_neg (by omega), if_neg (by omega), if_neg (by omega)]; exact o 2 (by decide)
        · rw [if_neg (by omega), if_neg (by omega), if_neg (by omega), if_neg (by omega)]; exact o 3 (by decide)
    · show h2.1 53 j = _
      rw [u5 j h1 h2', stI_at, if_pos rfl, if_neg h2', e53]
  · rw [if_neg (by rw [h5, nl40, nI_eq (by omega) (by decide)]; exact z), if_neg z]
    obtain ⟨h2, u1, u2, u3, u4, u5, u6⟩ := mnote_j q (d := d) (by omega) h5 a c e g
    refine ⟨(e, h2), u1, rfl, u2, u3, fun i hi => ?_, u5, u6⟩
    rw [if_neg z]
    show h2.1 76 _ = _ ∧ h2.1 76 _ = _ ∧ h2.1 76 _ = _ ∧ h2.1 76 _ = _
    rw [u4, u4, u4, u4]
    by_cases y : i = d
    · subst y
      simp
    · rw [if_neg y, if_neg y, if_neg y, if_neg y]
      refine ⟨?_, ?_, ?_, ?_⟩
      · rw [if_neg (by omega), if_neg (by omega), if_neg (by omega), if_neg (by omega)]
      · rw [if_neg (by omega), if_neg (by omega), if_neg (by omega), if_neg (by omega)]
      · rw [if_neg (by omega), if_neg (by omega), if_neg (by omega), if_neg (by omega)]
      · rw [if_neg (by omega), if_neg (by omega), if_neg (by omega), if_neg (by omega)]
theorem rng_c (lo hi : Nat) (hl : lo < 2 ^ 31) (hh : hi < 2 ^ 31) (v : Int32) : (∃ x, v = nI x ∧ lo ≤ x ∧ x ≤ hi ∧ ¬ v < nI lo ∧ v ≤ nI hi ∧ f_X8_within v (nI lo) (nI hi) = some 1) ∨ ((v < nI lo ∨ ¬ v ≤ nI hi) ∧ f_X8_within v (nI lo) (nI hi) = some 0) := by
  rcases i32_split v with ⟨x, hx, rfl⟩ | hv
  · by_cases q : lo ≤ x ∧ x ≤ hi
    · exact Or.inl ⟨x, rfl, q.1, q.2, nI_nlt q.1 hx, nI_le q.2 hh, within_in q.1 q.2 hh⟩
    · refine Or.inr ⟨?_, within_out (by omega) hx hl hh⟩
      by_cases q1 : x < lo
      · exact Or.inl (nI_lt q1 hl)
      · exact Or.inr (by rw [nI_leI hx hh]; omega)
  · exact Or.inr ⟨Or.inl (neg_lt hv hl), within_neg hv hl⟩
theorem isOf_eq (a c : Int32) {h g : Hp} (e : g.1 53 = h.1 53) : f_X8_isOf a c g = f_X8_isOf a c h := by
  unfold f_X8_isOf f_X8_isOne f_X8_isWrong
  rw [e]
theorem mend_go {h : Hp} (R : Rel h) {f : Fo} {s : Sc} {φ : Ph} {b : Nat} (R0A : RelA f s φ b h) {n w : Nat} (hw : w ≤ 6) (hn : FitN f n w) {lo hi : Nat} (t0 : rdT 90 (nI w) = some (nI lo)) (t1 : rdT 91 (nI w) = some (nI hi)) (hl : lo ≤ 1) (hh : hi ≤ 999) (hfit : ∀ x, lo ≤ x → x ≤ hi → FitV w x) (e1 : f_X7_isThere (nI n) (nI w) h = some 1) (e2 : f_X8_isOf (nI n) (nI w) h = some 1) (e3 : ∀ v, f_X8_isFit (nI w) v = f_X8_within v (nI lo) (nI hi)) (v : Int32) : Ag (f_X7_mend (nI n) (nI w) v h) (f_X8_mend (nI n) (nI w) v) := by
  obtain ⟨⟨r1, r2, r3, r4⟩, ⟨r5, r6, r7, r8⟩, ⟨r9, r10⟩, r11, r12, r13, ⟨N, d, c1, c2, c3, c4, c5, c6, c7⟩, r15, r16⟩ := id R0A
  have n10 : ¬ (1 : Int32) = 0 := by decide
  have H7 : ∀ X : Option (Int32 × Hp), ((f_X7_valueOf (nI n) (nI w) h).bind fun r9 => if r9 = v then some (r9, h) else (f_X7_setValue (nI n) (nI w) v h).bind fun r11 => (f_X0_note (nI n) (nI w) r9 v r11).bind fun r12 => some (r9, r12)) = X → f_X7_mend (nI n) (nI w) v h = if v < nI lo then some (-2000000000, h) else if v ≤ nI hi then X else some (-2000000000, h) := by
    intro X hX
    unfold f_X7_mend
    rw [if_neg (nI_pos (by omega)), if_neg (by rw [nl6]; exact nI_nlt hw (by decide)), e1]
    simp only [Option.bind_some, if_neg n10]
    rw [t0, t1]
    simp only [Option.bind_some]
    rw [hX]
  rcases rng_c lo hi (by omega) (by omega) v with ⟨x, rfl, x1, x2, x3, x4, x5⟩ | ⟨x1, x2⟩
  rotate_left
  · refine ag_same R (v := -2000000000) ?_ ?_
    · rw [H7 _ rfl]
      rcases x1 with q | q
      · rw [if_pos q]
      · rw [if_neg q]; split <;> rfl
    · unfold f_X8_mend; rw [e2]; simp only [Option.bind_some, if_neg n10]; rw [e3, x2]; rfl
  have hv := hfit x x1 x2
  have hval := val_fit r3 r4 hw hn
  have hbig : valN f s n w ≤ 999 := by
    have a1 := hval.1; have a2 := hval.2.1; have a3 := hval.2.2.1; have a4 := hval.2.2.2.1; have a5 := hval.2.2.2.2.1; have a6 := hval.2.2.2.2.2.1; have a7 := hval.2.2.2.2.2.2
    match w, hw with
    | 0, _ => exact a1 rfl
    | 1, _ => have := a2 rfl; omega
    | 2, _ => have := a3 rfl; omega
    | 3, _ => have := a4 rfl; omega
    | 4, _ => have := a5 rfl; omega
    | 5, _ => have := a6 rfl; omega
    | 6, _ => have := a7 rfl; omega
  have H8 : ∀ g : Hp, g.1 53 = h.1 53 → f_X8_get (nI n) (nI w) g = some (nI (valN f s n w)) → f_X8_mend (nI n) (nI w) (nI x) g = if nI (valN f s n w) = nI x then some (nI (valN f s n w), g) else (f_X8_becomes (nI n) (nI w) (nI x) g).bind fun r7 => mnote (nI n) (nI w) (nI x) (nI (valN f s n w)) r7 := by
    intro g hg hget
    unfold f_X8_mend
    rw [isOf_eq _ _ hg, e2]
    simp only [Option.bind_some, if_neg n10]
    rw [e3, x5]
    simp only [Option.bind_some, if_neg n10]
    rw [hget]
    rfl
  unfold Ag
  rw [H7 _ rfl, if_neg x3, if_pos x4, val_x r3 r5 r7 hw hn]
  simp only [Option.bind_some]
  by_cases z : valN f s n w = x
  · rw [if_pos (by rw [z])]
    refine ⟨_, rfl, ?_⟩
    simp only
    rw [H8 h rfl (val_m r3 r6 r8 hw hn), if_pos (by rw [z])]
    exact ⟨_, rfl, rfl, R⟩
  · have z2 : ¬ nI (valN f s n w) = nI x := by rw [nI_eq (by omega) (by omega)]; exact z
    rw [if_neg z2]
    obtain ⟨h1, p1, p2, p3, p4⟩ := setX r1 r3 r5 r7 hw hn hv
    rw [p1]
    simp only [Option.bind_some]
    have k25 : h1.1 25 = h.1 25 := p4.i 25 (by decide)
    obtain ⟨h2, q1, q2, q3, q4, q5⟩ := note_x p4.1 (d := d) (by omega) (by rw [k25]; exact c5) (nI n) (nI w) (nI (valN f s n w)) (nI x)
    rw [q1]
    refine ⟨_, rfl, ?_⟩
    simp only
    have K2 : Kp [2, 3, 6, 13, 14, 15, 25, 26, 27, 28, 29] h h2 := (p4.mono (by decide)).trans (q5.mono (by decide))
    have k53 : h2.1 53 = h.1 53 := K2.i 53 (by decide)
    have m6 : FoM f h2 := r6.eq (by rw [k53]) (by rw [k53]) (K2.i 55 (by decide)) (K2.i 56 (by decide)) (K2.i 57 (by decide)) (K2.i 58 (by decide)) (K2.i 59 (by decide))
    have m8 : ScM (foW f) s h2 := r8.eq (K2.i 54 (by decide)) (K2.i 60 (by decide)) (K2.i 61 (by decide)) (by rw [k53])
    rw [H8 h2 k53 (val_m r3 m6 m8 hw hn), if_neg z2]
    obtain ⟨h3, u1, u2, u3, u4, u5⟩ := setM K2.1 r3 m6 m8 hw hn hv
    rw [u1]
    simp only [Option.bind_some]
    refine ev_mono (mnote_m u4.1 (d := d) (by omega) (by rw [u5 35 (by decide), k53]; exact c6) (nI n) (nI w) (nI (valN f s n w)) (nI x)) (fun r hr => ?_)
    obtain ⟨o1, o2, o3, o4, o5, o6⟩ := hr
    refine ⟨o1.symm, ?_⟩
    have hsl : slotI d ≤ 39 := by unfold slotI; split <;> omega
    have X2 : FoX (setFo f n w x) h2 := p2.eq (q5.i 1 (by decide)) (q5.i 2 (by decide)) (q5.i 3 (by decide)) (q5.i 4 (by decide)) (q5.i 5 (by decide)) (q5.i 6 (by decide))
    have S2 : ScX (foW f) (setSc s n w x) 13 h2 := p3.eq (q5.i 13 (by decide)) (q5.i 14 (by decide)) (q5.i 15 (by decide))
    have X3 : FoX (setFo f n w x) h3 := X2.eq (u4.i 1 (by decide)) (u4.i 2 (by decide)) (u4.i 3 (by decide)) (u4.i 4 (by decide)) (u4.i 5 (by decide)) (u4.i 6 (by decide))
    have S3 : ScX (foW f) (setSc s n w x) 13 h3 := S2.eq (u4.i 13 (by decide)) (u4.i 14 (by decide)) (u4.i 15 (by decide))
    have kk : ∀ c, c ∈ [25, 26, 27, 28, 29] → r.2.1 c = h2.1 c := by
      intro c hc
      have y1 : List.contains [53, 54, 55, 56, 59, 60, 61] c = false := by simp at hc ⊢; omega
      have y2 : List.contains [53, 76] c = false := by simp at hc ⊢; omega
      rw [o6.i c y2, u4.i c y1]
    have k76 : h3.1 76 = h.1 76 := by rw [u4.i 76 (by decide), K2.i 76 (by decide)]
    refine R0A.told (((K2.mono (by decide)).trans (u4.mono (by decide))).trans (o6.mono (by decide))) (fun j y1 y2 y3 => by rw [o5 j y2 y3, u5 j y1, k53]) hv (X3.eq (o6.i 1 (by decide)) (o6.i 2 (by decide)) (o6.i 3 (by decide)) (o6.i 4 (by decide)) (o6.i 5 (by decide)) (o6.i 6 (by decide))) (u2.eq (o5 1 (by decide) (by decide)) (o5 4 (by decide) (by decide)) (o6.i 55 (by decide)) (o6.i 56 (by decide)) (o6.i 57 (by decide)) (o6.i 58 (by decide)) (o6.i 59 (by decide))) (S3.eq (o6.i 13 (by decide)) (o6.i 14 (by decide)) (o6.i 15 (by decide))) (u3.eq (o6.i 54 (by decide)) (o6.i 60 (by decide)) (o6.i 61 (by decide)) (o5 10 (by decide) (by decide))) ?_
    refine ⟨slotI d + 1, slotI d + 1, by omega, Nat.le_refl _, by rw [kk 25 (by decide)]; exact q3, o3, by rw [kk 25 (by decide)]; exact q2, o2, fun i hi => ?_⟩
    obtain ⟨w1, w2, w3, w4⟩ := q4 i (by omega)
    obtain ⟨v1, v2, v3, v4⟩ := o4 i (by omega)
    have hk : ∀ c, c ∈ [26, 27, 28, 29] → h1.1 c = h.1 c := by
      intro c hc
      exact p4.i c (by simp at hc ⊢; omega)
    rw [kk 26 (by decide), kk 27 (by decide), kk 28 (by decide), kk 29 (by decide), v1, v2, v3, v4, w1, w2, w3, w4, k76, hk 26 (by decide), hk 27 (by decide), hk 28 (by decide), hk 29 (by decide)]
    by_cases y : i = slotI d
    · simp only [if_pos y]
      exact ⟨trivial, trivial, trivial, trivial, n, w, _, _, rfl, rfl, rfl, rfl, hw, hn, hval, hv⟩
    · simp only [if_neg y]
      refine c7 (oldI d i) ?_
      unfold slotI at y hi
      unfold oldI
      split at y
      · rename_i y40
        rw [if_pos y40] at hi ⊢
        omega
      · rename_i y40
        rw [if_neg y40] at hi ⊢
        omega
theorem bsome {α : Type} (o : Option α) : (o.bind fun r => some r) = o := by cases o <;> rfl
theorem a_mend (v w u : Int32) (h : Hp) (R : Rel h) : Ag (f_X7_mend v w u h) (f_X8_mend v w u) := by
  have R0 := R
  obtain ⟨f, s, φ, b, R0A⟩ := R
  obtain ⟨⟨r1, r2, r3, r4⟩, ⟨r5, r6, r7, r8⟩, _⟩ := id R0A
  have n10 : ¬ (1 : Int32) = 0 := by decide
  have no : ∀ m, m ≤ 6 → f_X7_isThere v (nI m) h = some 0 → f_X8_isOf v (nI m) h = some 0 → Ag (f_X7_mend v (nI m) u h) (f_X8_mend v (nI m) u) := by
    intro m hm e1 e2
    refine ag_same R0 (v := -2000000000) ?_ ?_
    · unfold f_X7_mend; rw [if_neg (nI_pos (by omega)), if_neg (by rw [nl6]; exact nI_nlt hm (by decide)), e1]; rfl
    · unfold f_X8_mend; rw [e2]; rfl
  rcases i32_split w with ⟨m, hm, rfl⟩ | hw
  rotate_left
  · refine ag_same R0 (v := -2000000000) ?_ ?_
    · unfold f_X7_mend; rw [if_pos hw]
    · have e2 : f_X8_isOf v w h = some 0 := by
        unfold f_X8_isOf
        rw [if_neg (fun e => by rw [e] at hw; exact absurd hw (by decide)), nl1, within_neg hw (by decide), nl3, within_neg hw (by decide)]
        simp only [Option.bind_some, if_true]
        rw [if_neg (fun e => by rw [e] at hw; exact absurd hw (by decide))]
      unfold f_X8_mend; rw [e2]; rfl
  by_cases hm6 : m ≤ 6
  rotate_left
  · refine ag_same R0 (v := -2000000000) ?_ ?_
    · unfold f_X7_mend; rw [if_neg (nI_pos hm), if_pos (by rw [nl6]; exact nI_lt (by omega) hm)]
    · have e2 : f_X8_isOf v (nI m) h = some 0 := by
        unfold f_X8_isOf
        rw [if_neg (by rw [nl0, nI_eq hm (by decide)]; omega), nl1, nl2, within_out (by omega) hm (by decide) (by decide), nl3, nl5, within_out (by omega) hm (by decide) (by decide)]
        simp only [Option.bind_some, ← nl1, if_true]
        rw [if_neg (by rw [nl6, nI_eq hm (by decide)]; omega)]
      unfold f_X8_mend; rw [e2]; rfl
  clear hm
  match m, hm6 with
  | 0, _ =>
    rcases house_c v with ⟨n, hn, rfl, e1, e2⟩ | ⟨e1, e2⟩
    · refine mend_go R0 R0A (w := 0) (by decide) ⟨fun _ => hn, fun e => by omega, fun e => by omega, fun e => by omega⟩ (lo := 0) (hi := 999) (by decide) (by decide) (by decide) (by decide) (fun x _ x2 => ⟨fun _ => x2, fun e => by omega, fun e => by omega, fun e => by omega, fun e => by omega, fun e => by omega, fun e => by omega⟩) ?_ ?_ (fun v => ?_) u
      · unfold f_X7_isThere; rw [if_pos (by decide), e1]; rfl
      · unfold f_X8_isOf; rw [if_pos (by decide), e2]; rfl
      · unfold f_X8_isFit; rw [if_pos (by decide), bsome]; rfl
    · refine no 0 (by decide) ?_ ?_
      · unfold f_X7_isThere; rw [if_pos (by decide), e1]; rfl
      · unfold f_X8_isOf; rw [if_pos (by decide), e2]; rfl
  | 1, _ =>
    rcases one_c r3 r5 r6 v with ⟨n, hn, rfl, e1, e2⟩ | ⟨e1, e2⟩
    · refine mend_go R0 R0A (w := 1) (by decide) ⟨fun e => by omega, fun _ => hn, fun e => by omega, fun e => by omega⟩ (lo := 0) (hi := 11) (by decide) (by decide) (by decide) (by decide) (fun x _ x2 => ⟨fun e => by omega, fun _ => x2, fun e => by omega, fun e => by omega, fun e => by omega, fun e => by omega, fun e => by omega⟩) ?_ ?_ (fun v => ?_) u
      · unfold f_X7_isThere; rw [if_neg (by decide), if_pos (by decide), e1]; rfl
      · unfold f_X8_isOf; rw [if_neg (by decide), show f_X8_within (nI 1) 1 2 = some 1 by decide]; simp only [Option.bind_some, if_neg n10]; rw [e2]; rfl
      · unfold f_X8_isFit f_X8_isHouse; rw [if_neg (by decide), if_pos (by decide), bsome, bsome]; rfl
    · refine no 1 (by decide) ?_ ?_
      · unfold f_X7_isThere; rw [if_neg (by decide), if_pos (by decide), e1]; rfl
      · unfold f_X8_isOf; rw [if_neg (by decide), show f_X8_within (nI 1) 1 2 = some 1 by decide]; simp only [Option.bind_some, if_neg n10]; rw [e2]; rfl
  | 2, _ =>
    rcases one_c r3 r5 r6 v with ⟨n, hn, rfl, e1, e2⟩ | ⟨e1, e2⟩
    · refine mend_go R0 R0A (w := 2) (by decide) ⟨fun e => by omega, fun _ => hn, fun e => by omega, fun e => by omega⟩ (lo := 0) (hi := 12) (by decide) (by decide) (by decide) (by decide) (fun x _ x2 => ⟨fun e => by omega, fun e => by omega, fun _ => x2, fun e => by omega, fun e => by omega, fun e => by omega, fun e => by omega⟩) ?_ ?_ (fun v => ?_) u
      · unfold f_X7_isThere; rw [if_neg (by decide), if_neg (by decide), if_pos (by decide), e1]; rfl
      · unfold f_X8_isOf; rw [if_neg (by decide), show f_X8_within (nI 2) 1 2 = some 1 by decide]; simp only [Option.bind_some, if_neg n10]; rw [e2]; rfl
      · unfold f_X8_isFit; rw [if_neg (by decide), if_neg (by decide), if_pos (by decide), bsome]; rfl
    · refine no 2 (by decide) ?_ ?_
      · unfold f_X7_isThere; rw [if_neg (by decide), if_neg (by decide), if_pos (by decide), e1]; rfl
      · unfold f_X8_isOf; rw [if_neg (by decide), show f_X8_within (nI 2) 1 2 = some 1 by decide]; simp only [Option.bind_some, if_neg n10]; rw [e2]; rfl
  | 3, _ =>
    rcases wrong_c r3 r5 r6 v with ⟨n, hn, rfl, e1, e2⟩ | ⟨e1, e2⟩
    · refine mend_go R0 R0A (w := 3) (by decide) ⟨fun e => by omega, fun e => by omega, fun _ => hn, fun e => by omega⟩ (lo := 1) (hi := 9) (by decide) (by decide) (by decide) (by decide) (fun x x1 x2 => ⟨fun e => by omega, fun e => by omega, fun e => by omega, fun _ => ⟨x1, x2⟩, fun e => by omega, fun e => by omega, fun e => by omega⟩) ?_ ?_ (fun v => ?_) u
      · unfold f_X7_isThere; rw [if_neg (by decide), if_neg (by decide), if_neg (by decide), if_pos (by decide), e1]; rfl
      · unfold f_X8_isOf; rw [if_neg (by decide), show f_X8_within (nI 3) 1 2 = some 0 by decide, show f_X8_within (nI 3) 3 5 = some 1 by decide]; simp only [Option.bind_some, if_neg n10, if_true]; rw [e2]; rfl
      · unfold f_X8_isFit; rw [if_neg (by decide), if_neg (by decide), if_neg (by decide), if_pos (by decide), bsome]; rfl
    · refine no 3 (by decide) ?_ ?_
      · unfold f_X7_isThere; rw [if_neg (by decide), if_neg (by decide), if_neg (by decide), if_pos (by decide), e1]; rfl
      · unfold f_X8_isOf; rw [if_neg (by decide), show f_X8_within (nI 3) 1 2 = some 0 by decide, show f_X8_within (nI 3) 3 5 = some 1 by decide]; simp only [Option.bind_some, if_neg n10, if_true]; rw [e2]; rfl
  | 4, _ =>
    rcases wrong_c r3 r5 r6 v with ⟨n, hn, rfl, e1, e2⟩ | ⟨e1, e2⟩
    · refine mend_go R0 R0A (w := 4) (by decide) ⟨fun e => by omega, fun e => by omega, fun _ => hn, fun e => by omega⟩ (lo := 0) (hi := 99) (by decide) (by decide) (by decide) (by decide) (fun x x1 x2 => ⟨fun e => by omega, fun e => by omega, fun e => by omega, fun e => by omega, fun _ => x2, fun e => by omega, fun e => by omega⟩) ?_ ?_ (fun v => ?_) u
      · unfold f_X7_isThere; rw [if_neg (by decide), if_neg (by decide), if_neg (by decide), if_neg (by decide), if_pos (by decide), e1]; rfl
      · unfold f_X8_isOf; rw [if_neg (by decide), show f_X8_within (nI 4) 1 2 = some 0 by decide, show f_X8_within (nI 4) 3 5 = some 1 by decide]; simp only [Option.bind_some, if_neg n10, if_true]; rw [e2]; rfl
      · unfold f_X8_isFit; rw [if_neg (by decide), if_neg (by decide), if_neg (by decide), if_neg (by decide), if_pos (by decide), bsome]; rfl
    · refine no 4 (by decide) ?_ ?_
      · unfold f_X7_isThere; rw [if_neg (by decide), if_neg (by decide), if_neg (by decide), if_neg (by decide), if_pos (by decide), e1]; rfl
      · unfold f_X8_isOf; rw [if_neg (by decide), show f_X8_within (nI 4) 1 2 = some 0 by decide, show f_X8_within (nI 4) 3 5 = some 1 by decide]; simp only [Option.bind_some, if_neg n10, if_true]; rw [e2]; rfl
  | 5, _ =>
    rcases wrong_c r3 r5 r6 v with ⟨n, hn, rfl, e1, e2⟩ | ⟨e1, e2⟩
    · refine mend_go R0 R0A (w := 5) (by decide) ⟨fun e => by omega, fun e => by omega, fun _ => hn, fun e => by omega⟩ (lo := 0) (hi := 1) (by decide) (by decide) (by decide) (by decide) (fun x x1 x2 => ⟨fun e => by omega, fun e => by omega, fun e => by omega, fun e => by omega, fun e => by omega, fun _ => x2, fun e => by omega⟩) ?_ ?_ (fun v => ?_) u
      · unfold f_X7_isThere; rw [if_neg (by decide), if_neg (by decide), if_neg (by decide), if_neg (by decide), if_neg (by decide), if_pos (by decide), e1]; rfl
      · unfold f_X8_isOf; rw [if_neg (by decide), show f_X8_within (nI 5) 1 2 = some 0 by decide, show f_X8_within (nI 5) 3 5 = some 1 by decide]; simp only [Option.bind_some, if_neg n10, if_true]; rw [e2]; rfl
      · unfold f_X8_isFit; rw [if_neg (by decide), if_neg (by decide), if_neg (by decide), if_neg (by decide), if_neg (by decide), if_pos (by decide), bsome]; rfl
    · refine no 5 (by decide) ?_ ?_
      · unfold f_X7_isThere; rw [if_neg (by decide), if_neg (by decide), if_neg (by decide), if_neg (by decide), if_neg (by decide), if_pos (by decide), e1]; rfl
      · unfold f_X8_isOf; rw [if_neg (by decide), show f_X8_within (nI 5) 1 2 = some 0 by decide, show f_X8_within (nI 5) 3 5 = some 1 by decide]; simp only [Option.bind_some, if_neg n10, if_true]; rw [e2]; rfl
  | 6, _ =>
    by_cases z : v = 0
    · subst z
      refine mend_go R0 R0A (n := 0) (w := 6) (by decide) ⟨fun e => by omega, fun e => by omega, fun e => by omega, fun _ => rfl⟩ (lo := 0) (hi := 99) (by decide) (by decide) (by decide) (by decide) (fun x x1 x2 => ⟨fun e => by omega, fun e => by omega, fun e => by omega, fun e => by omega, fun e => by omega, fun e => by omega, fun _ => x2⟩) ?_ ?_ (fun v => ?_) u
      · unfold f_X7_isThere; rw [if_neg (by decide), if_neg (by decide), if_neg (by decide), if_neg (by decide), if_neg (by decide), if_neg (by decide), if_pos (by decide), if_pos (by decide)]
      · unfold f_X8_isOf; rw [if_neg (by decide), show f_X8_within (nI 6) 1 2 = some 0 by decide, show f_X8_within (nI 6) 3 5 = some 0 by decide]; simp only [Option.bind_some, if_true]; rw [if_pos (by decide), if_pos (by decide)]
      · unfold f_X8_isFit; rw [if_neg (by decide), if_neg (by decide), if_neg (by decide), if_neg (by decide), if_neg (by decide), if_neg (by decide), bsome]; rfl
    · refine no 6 (by decide) ?_ ?_
      · unfold f_X7_isThere; rw [if_neg (by decide), if_neg (by decide), if_neg (by decide), if_neg (by decide), if_neg (by decide), if_neg (by decide), if_pos (by decide), if_neg z]
      · unfold f_X8_isOf; rw [if_neg (by decide), show f_X8_within (nI 6) 1 2 = some 0 by decide, show f_X8_within (nI 6) 3 5 = some 0 by decide]; simp only [Option.bind_some, if_true]; rw [if_pos (by decide), if_neg z]
