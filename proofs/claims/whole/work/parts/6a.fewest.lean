/-! the fewest calls: breaks, the first call that mends -/
def Brk (s : Sc) (j : Nat) : Prop := scN s j < scN s (j - 1)
def Ord (s : Sc) : Prop := ∀ j, 1 ≤ j → j < 12 → ¬ Brk s j
def clc (f : Fo) (φ : Ph) (s : Sc) (c : Nat) : Sc := cal f φ s (c / 12) (c % 12)
def OneC (f : Fo) (φ : Ph) (s : Sc) (c : Nat) : Prop := c < 12 * foW f ∧ Ord (clc f φ s c) ∧ ∀ d, d < c → ¬ Ord (clc f φ s d)
def NoC (f : Fo) (φ : Ph) (s : Sc) : Prop := ∀ c, c < 12 * foW f → ¬ Ord (clc f φ s c)
def OutC (f : Fo) (φ : Ph) (s : Sc) (A : Nat → Int32) (x : Int32) : Prop := (x = nI 0 ∧ Ord s) ∨ (x = nI 1 ∧ ¬ Ord s ∧ ∃ c, OneC f φ s c ∧ A 0 = nI c) ∨ (x = nI 2 ∧ ¬ Ord s ∧ NoC f φ s ∧ ∃ c d, c < 12 * foW f ∧ (∀ e, e < c → NoC f φ (clc f φ s e)) ∧ OneC f φ (clc f φ s c) d ∧ A 0 = nI c ∧ A 1 = nI d) ∨ (x = -2 ∧ ¬ Ord s ∧ NoC f φ s ∧ ∀ c, c < 12 * foW f → NoC f φ (clc f φ s c))
theorem OneC.uniq {f : Fo} {φ : Ph} {s : Sc} {c d : Nat} (h1 : OneC f φ s c) (h2 : OneC f φ s d) : c = d := by
  rcases Nat.lt_trichotomy c d with q | q | q
  · exact absurd h1.2.1 (h2.2.2 c q)
  · exact q
  · exact absurd h2.2.1 (h1.2.2 d q)
theorem OneC.no {f : Fo} {φ : Ph} {s : Sc} {c : Nat} (h1 : OneC f φ s c) (h2 : NoC f φ s) : False := h2 c h1.1 h1.2.1
theorem OutC.det {f : Fo} {φ : Ph} {s : Sc} {A B : Nat → Int32} {x y : Int32} (h1 : OutC f φ s A x) (h2 : OutC f φ s B y) : x = y ∧ (x = nI 1 → A 0 = B 0) ∧ (x = nI 2 → A 0 = B 0 ∧ A 1 = B 1) := by
  rcases h1 with ⟨x1, a1⟩ | ⟨x1, a1, c, a2, a3⟩ | ⟨x1, a1, a2, c, d, a3, a4, a5, a6, a7⟩ | ⟨x1, a1, a2, a3⟩ <;> rcases h2 with ⟨y1, b1⟩ | ⟨y1, b1, e, b2, b3⟩ | ⟨y1, b1, b2, e, g, b3, b4, b5, b6, b7⟩ | ⟨y1, b1, b2, b3⟩
  · exact ⟨by rw [x1, y1], fun q => by rw [x1] at q; exact absurd q (by decide), fun q => by rw [x1] at q; exact absurd q (by decide)⟩
  · exact absurd a1 b1
  · exact absurd a1 b1
  · exact absurd a1 b1
  · exact absurd b1 a1
  · have := a2.uniq b2
    subst this
    exact ⟨by rw [x1, y1], fun _ => by rw [a3, b3], fun q => by rw [x1] at q; exact absurd q (by decide)⟩
  · exact (a2.no b2).elim
  · exact (a2.no b2).elim
  · exact absurd b1 a1
  · exact (b2.no a2).elim
  · have hce : c = e := by
      rcases Nat.lt_trichotomy c e with q | q | q
      · exact (a5.no (b4 c q)).elim
      · exact q
      · exact (b5.no (a4 e q)).elim
    subst hce
    have := a5.uniq b5
    subst this
    exact ⟨by rw [x1, y1], fun q => by rw [x1] at q; exact absurd q (by decide), fun _ => ⟨by rw [a6, b6], by rw [a7, b7]⟩⟩
  · exact (a5.no (b3 c a3)).elim
  · exact absurd b1 a1
  · exact (b2.no a2).elim
  · exact (b5.no (a3 e b3)).elim
  · exact ⟨by rw [x1, y1], fun q => by rw [x1] at q; exact absurd q (by decide), fun q => by rw [x1] at q; exact absurd q (by decide)⟩
theorem cal_rise {f : Fo} {φ : Ph} {s : Sc} {w hs : Nat} (hN : scN s hs ≤ 999) : scN s hs ≤ scN (cal f φ s w hs) hs ∧ ∀ j, j ≠ hs → scN (cal f φ s w hs) j = scN s j := by
  unfold cal
  split
  · exact ⟨Nat.le_refl _, fun _ _ => rfl⟩
  · refine ⟨?_, fun j hj => if_neg hj⟩
    show _ ≤ upN _ _ _ _
    rw [upN_at, if_pos rfl]
    omega
theorem brk_stays {f : Fo} {φ : Ph} {s : Sc} {w hs b : Nat} (hN : scN s hs ≤ 999) (hb : Brk s b) (hne : hs ≠ b) : Brk (cal f φ s w hs) b := by
  obtain ⟨h1, h2⟩ := cal_rise (f := f) (φ := φ) (w := w) hN
  unfold Brk at *
  rw [h2 b (fun e => hne e.symm)]
  by_cases q : b - 1 = hs
  · rw [q] at hb ⊢; omega
  · rw [h2 _ q]; exact hb
/-- what a search in one house tells of all calls, where that house has the only break -/
def MenC (f : Fo) (φ : Ph) (s : Sc) (b w : Nat) : Prop := calN f φ s w b ≠ 0 ∧ Ord (cal f φ s w b)
theorem men_of {f : Fo} {φ : Ph} {s : Sc} {W b c : Nat} (so : ScOk W s) (h1 : 1 ≤ b) (h2 : b < 12) (hb : Brk s b) (ho : Ord (clc f φ s c)) : c % 12 = b ∧ MenC f φ s b (c / 12) := by
  have hm : c % 12 < 12 := Nat.mod_lt _ (by decide)
  have e : c % 12 = b := by
    by_cases q : c % 12 = b
    · exact q
    · exact absurd (brk_stays (f := f) (φ := φ) (w := c / 12) (so.1 _ hm) hb q) (ho b h1 h2)
  refine ⟨e, ?_⟩
  unfold clc at ho
  rw [e] at ho
  refine ⟨fun z => ?_, ho⟩
  have : cal f φ s (c / 12) b = s := by unfold cal; rw [if_pos z]
  rw [this] at ho
  exact ho b h1 h2 hb
theorem men_one {f : Fo} {φ : Ph} {s : Sc} {b w : Nat} (so : ScOk (foW f) s) (h1 : 1 ≤ b) (h2 : b < 12) (hb : Brk s b) (hw : w < foW f) (hm : MenC f φ s b w) (hmin : ∀ v, v < w → ¬ MenC f φ s b v) : OneC f φ s (w * 12 + b) := by
  refine ⟨by omega, ?_, fun d hd ho => ?_⟩
  · unfold clc
    rw [show (w * 12 + b) / 12 = w by omega, show (w * 12 + b) % 12 = b by omega]
    exact hm.2
  · obtain ⟨e1, e2⟩ := men_of so h1 h2 hb ho
    exact hmin (d / 12) (by omega) e2
theorem men_no {f : Fo} {φ : Ph} {s : Sc} {b : Nat} (so : ScOk (foW f) s) (h1 : 1 ≤ b) (h2 : b < 12) (hb : Brk s b) (hmin : ∀ v, v < foW f → ¬ MenC f φ s b v) : NoC f φ s := by
  intro c hc ho
  obtain ⟨e1, e2⟩ := men_of so h1 h2 hb ho
  exact hmin (c / 12) (by omega) e2
theorem two_no {f : Fo} {φ : Ph} {s : Sc} {a b : Nat} (so : ScOk (foW f) s) (h1 : 1 ≤ a) (h2 : a < 12) (h3 : 1 ≤ b) (h4 : b < 12) (ha : Brk s a) (hb : Brk s b) (hne : a ≠ b) : NoC f φ s := by
  intro c hc ho
  obtain ⟨e1, _⟩ := men_of so h1 h2 ha ho
  obtain ⟨e2, _⟩ := men_of so h3 h4 hb ho
  exact hne (e1.symm.trans e2)
theorem zero_no {f : Fo} {φ : Ph} {s : Sc} {c : Nat} (hz : calN f φ s (c / 12) (c % 12) = 0) : clc f φ s c = s := by unfold clc cal; rw [if_pos hz]
/-! breaks, found -/
theorem fbk_x {W : Nat} {s : Sc} {g : Hp} (so : ScOk W s) (S : ScX W s 17 g) : Ev (f_X5_firstBreak 17 g) fun r => (r = -2 ∧ Ord s) ∨ ∃ b, 1 ≤ b ∧ b < 12 ∧ r = nI b ∧ Brk s b ∧ ∀ j, 1 ≤ j → j < b → ¬ Brk s j := by
  unfold f_X5_firstBreak
  rw [if_pos (by decide)]
  refine ev_call (P := fun o : Int32 ⊕ Int32 => (Sum.elim (fun _ => Ord s) (fun r => ∃ b, 1 ≤ b ∧ b < 12 ∧ r = nI b ∧ Brk s b ∧ ∀ j, 1 ≤ j → j < b → ¬ Brk s j) o)) (ev_for (k := 1) (fun k (x : Int32) => x = nI k ∧ 1 ≤ k ∧ ∀ j, 1 ≤ j → j < k → ¬ Brk s j) 12 (fun k x hk hP => ?_) ⟨rfl, Nat.le_refl _, fun j h1 h2 => absurd h2 (by omega)⟩ (by decide) (by rw [FUe]; decide)) (fun o ho => ?_)
  · obtain ⟨rfl, p1, p2⟩ := hP
    unfold b_X5_firstBreak_2
    by_cases z : 12 ≤ k
    · rw [if_pos (by rw [nl12]; exact nI_le z (by omega))]
      have : k = 12 := by omega
      subst this
      exact ev_some p2
    · rw [if_neg (by rw [nl12, nI_leI (by decide) (by omega)]; exact z), nl1, nI_sub p1, show pf 17 0 = 18 from rfl, rd_18 (by omega), rd_18 (by omega), S.n17 (by omega), S.n17 (by omega)]
      simp only [Option.bind_some]
      have b1 := so.1 k (by omega)
      have b2 := so.1 (k - 1) (by omega)
      by_cases y : scN s (k - 1) ≤ scN s k
      · rw [if_pos (nI_le y (by omega))]
        refine ev_some ⟨by omega, by rw [nI_add], by omega, fun j h1 h2 => ?_⟩
        by_cases e : j = k
        · subst e; unfold Brk; omega
        · exact p2 j h1 (by omega)
      · rw [if_neg (by rw [nI_leI (by omega) (by omega)]; exact y)]
        exact ev_some ⟨k, p1, by omega, rfl, by unfold Brk; omega, p2⟩
  · cases o with
    | inl a => exact ev_some (Or.inl ⟨rfl, ho⟩)
    | inr a => exact ev_some (Or.inr ho)
theorem lbk_x {W : Nat} {s : Sc} {g : Hp} (so : ScOk W s) (S : ScX W s 17 g) : Ev (f_X5_lastBreak 17 g) fun r => (r = -2 ∧ Ord s) ∨ ∃ b, 1 ≤ b ∧ b < 12 ∧ r = nI b ∧ Brk s b ∧ ∀ j, b < j → j < 12 → ¬ Brk s j := by
  unfold f_X5_lastBreak
  rw [if_pos (by decide)]
  refine ev_call (P := fun o : Int32 ⊕ Int32 => (Sum.elim (fun _ => Ord s) (fun r => ∃ b, 1 ≤ b ∧ b < 12 ∧ r = nI b ∧ Brk s b ∧ ∀ j, b < j → j < 12 → ¬ Brk s j) o)) (ev_for (k := 0) (fun k (x : Int32) => x = nI (11 - k) ∧ ∀ j, 11 - k < j → j < 12 → ¬ Brk s j) 11 (fun k x hk hP => ?_) ⟨rfl, fun j h1 h2 => absurd h2 (by omega)⟩ (by decide) (by rw [FUe]; decide)) (fun o ho => ?_)
  · obtain ⟨rfl, p2⟩ := hP
    unfold b_X5_lastBreak_3
    by_cases z : 11 ≤ k
    · have e : 11 - k = 0 := by omega
      rw [e, if_pos (by decide)]
      rw [e] at p2
      exact ev_some (fun j h1 h2 => p2 j (by omega) h2)
    · rw [if_neg (by rw [nl0, nI_leI (by omega) (by decide)]; omega), nl1, nI_sub (by omega), show pf 17 0 = 18 from rfl, rd_18 (by omega), rd_18 (by omega), S.n17 (by omega), S.n17 (by omega)]
      simp only [Option.bind_some]
      have b1 := so.1 (11 - k) (by omega)
      have b2 := so.1 (11 - k - 1) (by omega)
      by_cases y : scN s (11 - k - 1) ≤ scN s (11 - k)
      · rw [if_pos (nI_le y (by omega))]
        refine ev_some ⟨by omega, by rw [show 11 - k - 1 = 11 - (k + 1) by omega], fun j h1 h2 => ?_⟩
        by_cases e : j = 11 - k
        · subst e; unfold Brk; omega
        · exact p2 j (by omega) h2
      · rw [if_neg (by rw [nI_leI (by omega) (by omega)]; exact y)]
        exact ev_some ⟨11 - k, by omega, by omega, rfl, by unfold Brk; omega, p2⟩
  · cases o with
    | inl a => exact ev_some (Or.inl ⟨rfl, ho⟩)
    | inr a => exact ev_some (Or.inr ho)
theorem ord_m {W : Nat} {s : Sc} {g : Hp} (so : ScOk W s) (S : ScM W s g) : Ev (f_X8_isInOrder g) fun r => (r = 1 ∧ Ord s) ∨ (r = 0 ∧ ¬ Ord s) := by
  unfold f_X8_isInOrder
  refine ev_call (P := fun o : Int32 ⊕ Int32 => (Sum.elim (fun _ => Ord s) (fun r => r = 0 ∧ ¬ Ord s) o)) (ev_for (k := 1) (fun k (x : Int32) => x = nI k ∧ 1 ≤ k ∧ ∀ j, 1 ≤ j → j < k → ¬ Brk s j) 12 (fun k x hk hP => ?_) ⟨rfl, Nat.le_refl _, fun j h1 h2 => absurd h2 (by omega)⟩ (by decide) (by rw [FUe]; decide)) (fun o ho => ?_)
  · obtain ⟨rfl, p1, p2⟩ := hP
    unfold b_X8_isInOrder_2
    by_cases z : 12 ≤ k
    · rw [if_pos (by rw [nl12]; exact nI_le z (by omega))]
      have : k = 12 := by omega
      subst this
      exact ev_some p2
    · rw [if_neg (by rw [nl12, nI_leI (by decide) (by omega)]; exact z), nl1, nI_sub p1, rd_54 (by omega), rd_54 (by omega), S.1 _ (by omega), S.1 _ (by omega)]
      simp only [Option.bind_some]
      have b1 := so.1 k (by omega)
      have b2 := so.1 (k - 1) (by omega)
      by_cases y : scN s (k - 1) ≤ scN s k
      · rw [if_pos (nI_le y (by omega))]
        refine ev_some ⟨by omega, by rw [nI_add], by omega, fun j h1 h2 => ?_⟩
        by_cases e : j = k
        · subst e; unfold Brk; omega
        · exact p2 j h1 (by omega)
      · rw [if_neg (by rw [nI_leI (by omega) (by omega)]; exact y)]
        exact ev_some ⟨rfl, fun ho => ho k p1 (by omega) (by unfold Brk; omega)⟩
  · cases o with
    | inl a => exact ev_some (Or.inl ⟨rfl, ho⟩)
    | inr a => exact ev_some (Or.inr ho)
/-! the class's search -/
theorem ThP.sx {f : Fo} {φ : Ph} {s' : Sc} {h g : Hp} (T : ThP f φ s' h g) : ScX (foW f) s' 17 g := by
  obtain ⟨h0, K, T, e⟩ := T
  exact T.2
theorem ThP.fo {f : Fo} {s s' : Sc} {φ : Ph} {h g : Hp} (R : RX f s φ h) (T : ThP f φ s' h g) : FoX f g := by
  obtain ⟨h0, K, T, e⟩ := T
  exact (R.p49 K).2.2.2.2.1.kp T.1 (by decide)
theorem ThP.call {f : Fo} {s s' : Sc} {φ : Ph} {h g : Hp} (R : RX f s φ h) (so' : ScOk (foW f) s') (T : ThP f φ s' h g) {i hs : Nat} (hi : i < foW f) (hh : hs < 12) : Ev (f_X7_forgive 17 (nI i) (nI hs) g) fun r => r.1 = nI (calN f φ s' i hs) ∧ ThP f φ (cal f φ s' i hs) h r.2 ∧ r.2.1 49 = g.1 49 := by
  obtain ⟨h0, K, T, e⟩ := T
  refine ev_mono (RX.call (R.p49 K) so' T hi hh) (fun r hr => ?_)
  have e2 : r.2.1 49 = h0.1 49 := hr.2.1.i 49 (by decide)
  exact ⟨hr.1, ⟨h0, K, hr.2, e2.symm⟩, by rw [e2, e]⟩
theorem ThP.un {f : Fo} {s : Sc} {φ : Ph} {h g : Hp} (hW : foW f ≤ 12) {w hs : Nat} (T : ThP f φ (cal f φ s w hs) h g) (hc : calN f φ s w hs ≠ 0) (hw : w < foW f) : ∃ r, f_X5_setForgiven 17 (nI w) 0 (stI g 18 hs (nI (scN s hs))) = some r ∧ ThP f φ s h r ∧ r.1 49 = g.1 49 := by
  obtain ⟨h0, K, T, e⟩ := T
  have hf : scF s w = false := by
    cases e : scF s w with
    | false => rfl
    | true => exact absurd (by unfold calN; rw [if_pos e]) hc
  obtain ⟨x, x1, x2, x3, x4, x5⟩ := unmove_x hW T.2 hf hw
  exact ⟨x, x1, ⟨h0, K, ⟨x3 _ T.1, x2⟩, by rw [e, x4]⟩, x4⟩
theorem mends_x {f : Fo} {s0 s : Sc} {φ : Ph} {h g : Hp} (R : RX f s0 φ h) (so : ScOk (foW f) s) (T : ThP f φ s h g) {b k : Nat} (hb : b < 12) (hk : k < 2) : Ev (f_X7_mendsIn (nI b) (nI k) g) fun r => ThP f φ s h r.2 ∧ (∀ j, j ≠ k → r.2.1 49 j = g.1 49 j) ∧ ((r.1 = 1 ∧ ∃ w, w < foW f ∧ MenC f φ s b w ∧ (∀ v, v < w → ¬ MenC f φ s b v) ∧ r.2.1 49 k = nI (w * 12 + b)) ∨ (r.1 = 0 ∧ ∀ v, v < foW f → ¬ MenC f φ s b v)) := by
  have ok := R.2.2.1
  have h12 := ok.2.1
  have hφ := R.2.1
  unfold f_X7_mendsIn
  rw [rd_18 hb, T.sx.n17 hb]
  simp only [Option.bind_some]
  refine ev_call (P := fun o : (Int32 × Hp) ⊕ (Int32 × Hp) => Sum.elim (fun a : Int32 × Hp => ThP f φ s h a.2 ∧ a.2.1 49 = g.1 49 ∧ ∀ v, v < foW f → ¬ MenC f φ s b v) (fun r : Int32 × Hp => ThP f φ s h r.2 ∧ (∀ j, j ≠ k → r.2.1 49 j = g.1 49 j) ∧ (r.1 = 1 ∧ ∃ w, w < foW f ∧ MenC f φ s b w ∧ (∀ v, v < w → ¬ MenC f φ s b v) ∧ r.2.1 49 k = nI (w * 12 + b))) o) (ev_for (k := 0) (fun w (u : Int32 × Hp) => u.1 = nI w ∧ ThP f φ s h u.2 ∧ u.2.1 49 = g.1 49 ∧ ∀ v, v < w → ¬ MenC f φ s b v) (foW f) (fun w u hw hu => ?_) ⟨rfl, T, rfl, fun v hv => absurd hv (Nat.not_lt_zero v)⟩ (Nat.zero_le _) (by rw [FUe]; omega)) (fun o ho => ?_)
  · obtain ⟨y, g'⟩ := u
    obtain ⟨p1, p2, p3, p4⟩ := hu
    simp only at p1 p2 p3 p4
    subst p1
    unfold b_X7_mendsIn_13
    rw [(p2.fo R).2.1]
    by_cases z : foW f ≤ w
    · have e : w = foW f := by omega
      rw [if_pos (nI_le z (by omega))]
      exact ev_some ⟨p2, p3, by rw [← e]; exact p4⟩
    · have hw' : w < foW f := by omega
      rw [if_neg (by rw [nI_leI (by omega) (by omega)]; exact z)]
      refine ev_call (p2.call R so hw' hb) (fun r hr => ?_)
      obtain ⟨r1, r2, r3⟩ := hr
      have c9 := calN_le (f := f) (s := s) (i := w) (hs := b) hφ
      rw [r1]
      by_cases z0 : calN f φ s w b = 0
      · rw [if_pos (by rw [z0]; rfl)]
        have ec : cal f φ s w b = s := by unfold cal; rw [if_pos z0]
        rw [ec] at r2
        refine ev_some ⟨hw', by rw [nl1, nI_add], r2, by rw [r3, p3], fun v hv hm => ?_⟩
        by_cases e : v = w
        · rw [e] at hm; exact hm.1 z0
        · exact p4 v (by omega) hm
      · rw [if_neg (by rw [nl0, nI_eq (by omega) (by decide)]; exact z0)]
        obtain ⟨x, x1, x2, x3⟩ := ThP.un h12 r2 z0 hw'
        refine ev_call (fbk_x (cal_ok so) r2.sx) (fun t ht => ?_)
        rcases ht with ⟨t1, t2⟩ | ⟨b', t1, t2, t3, t4, t5⟩
        · rw [if_pos t1]
          unfold j_X7_mendsIn_59
          rw [wr_18 hb]
          simp only [Option.bind_some]
          rw [x1]
          simp only [Option.bind_some]
          rw [if_neg (by decide), nl12, nI_mul, nI_add, wr_49 hk]
          refine ev_some ⟨x2.st k _, fun j hj => ?_, rfl, w, hw', ⟨z0, t2⟩, p4, ?_⟩
          · show (stI x 49 k _).1 49 j = _
            rw [stI_at, if_pos rfl, if_neg hj, x3, r3, p3]
          · show (stI x 49 k _).1 49 k = _
            rw [stI_at, if_pos rfl, if_pos rfl]
        · rw [if_neg (by rw [t3]; exact nI_m2 (by omega))]
          unfold j_X7_mendsIn_59
          rw [wr_18 hb]
          simp only [Option.bind_some]
          rw [x1]
          simp only [Option.bind_some]
          rw [if_pos trivial]
          refine ev_some ⟨hw', by rw [nl1, nI_add], x2, by rw [x3, r3, p3], fun v hv hm => ?_⟩
          by_cases e : v = w
          · rw [e] at hm; exact hm.2 b' t1 t2 t4
          · exact p4 v (by omega) hm
  · cases o with
    | inl a => exact ev_some ⟨ho.1, fun j _ => by rw [ho.2.1], Or.inr ⟨rfl, ho.2.2⟩⟩
    | inr a => exact ev_some ⟨ho.1, ho.2.1, Or.inl ho.2.2⟩
