theorem onlyC {f : Fo} {φ : Ph} {s : Sc} {h g : Hp} (_T : ThP f φ s h g) : True := trivial
/-- what one house's search tells, where the breaks are as found -/
theorem men_c {f : Fo} {s0 s : Sc} {φ : Ph} {h g : Hp} (R : RX f s0 φ h) (so : ScOk (foW f) s) (T : ThP f φ s h g) {b k : Nat} (h1 : 1 ≤ b) (hb : b < 12) (hk : k < 2) (hB : Brk s b) : Ev (f_X7_mendsIn (nI b) (nI k) g) fun r => ThP f φ s h r.2 ∧ (∀ j, j ≠ k → r.2.1 49 j = g.1 49 j) ∧ ((r.1 = 1 ∧ ∃ c, OneC f φ s c ∧ r.2.1 49 k = nI c) ∨ (r.1 = 0 ∧ NoC f φ s)) := by
  refine ev_mono (mends_x R so T hb hk) (fun r hr => ⟨hr.1, hr.2.1, ?_⟩)
  rcases hr.2.2 with ⟨r1, w, w1, w2, w3, w4⟩ | ⟨r1, r2⟩
  · exact Or.inl ⟨r1, w * 12 + b, men_one so h1 hb hB w1 w2 w3, w4⟩
  · exact Or.inr ⟨r1, men_no so h1 hb hB r2⟩
theorem sf_loop {f : Fo} {s : Sc} {φ : Ph} {h g : Hp} (R : RX f s φ h) (T : ThP f φ s h g) (hno : ¬ Ord s) (hn1 : NoC f φ s) : Ev (j_X7_searchFewest_49 g) fun r => ThP f φ s h r.2 ∧ OutC f φ s (r.2.1 49) r.1 := by
  have ok := R.2.2.1
  have so := R.2.2.2.1
  have h12 := ok.2.1
  have hφ := R.2.1
  unfold j_X7_searchFewest_49
  refine ev_call (P := fun o : (Int32 × Hp) ⊕ (Int32 × Hp) => Sum.elim (fun a : Int32 × Hp => ThP f φ s h a.2 ∧ ∀ c, c < 12 * foW f → NoC f φ (clc f φ s c)) (fun r : Int32 × Hp => ThP f φ s h r.2 ∧ OutC f φ s (r.2.1 49) r.1) o) (ev_for (k := 0) (fun c (u : Int32 × Hp) => u.1 = nI c ∧ ThP f φ s h u.2 ∧ ∀ d, d < c → NoC f φ (clc f φ s d)) (12 * foW f) (fun c u hc hu => ?_) ⟨rfl, T, fun d hd => absurd hd (Nat.not_lt_zero d)⟩ (Nat.zero_le _) (by rw [FUe]; omega)) (fun o ho => ?_)
  · obtain ⟨y, g'⟩ := u
    obtain ⟨p1, p2, p3⟩ := hu
    simp only at p1 p2 p3
    subst p1
    unfold b_X7_searchFewest_51
    rw [(p2.fo R).2.1]
    simp only
    rw [nl12, nI_mul]
    by_cases z : 12 * foW f ≤ c
    · have e : c = 12 * foW f := by omega
      rw [if_pos (nI_le (by omega) (by omega))]
      exact ev_some ⟨p2, by rw [← e]; exact p3⟩
    · rw [if_neg (by rw [nI_leI (by omega) (by omega)]; omega)]
      have hw' : c / 12 < foW f := by omega
      have hh : c % 12 < 12 := Nat.mod_lt _ (by decide)
      have fin : ∀ x : Hp, ThP f φ s h x → NoC f φ (clc f φ s c) → Ev (some (Sum.inl (nI c + 1, x)) : Option ((Int32 × Hp) ⊕ ((Int32 × Hp) ⊕ (Int32 × Hp)))) (Sum.elim (fun t : Int32 × Hp => c < 12 * foW f ∧ t.1 = nI (c + 1) ∧ ThP f φ s h t.2 ∧ ∀ d, d < c + 1 → NoC f φ (clc f φ s d)) (fun o => Sum.elim (fun a : Int32 × Hp => ThP f φ s h a.2 ∧ ∀ c, c < 12 * foW f → NoC f φ (clc f φ s c)) (fun r : Int32 × Hp => ThP f φ s h r.2 ∧ OutC f φ s (r.2.1 49) r.1) o)) := by
        intro x hx hn
        refine ev_some ⟨by omega, by rw [nl1, nI_add], hx, fun d hd => ?_⟩
        by_cases e : d = c
        · rw [e]; exact hn
        · exact p3 d (by omega)
      rw [nI_div (by omega) (by decide), nI_mod (by omega) (by decide), rd_18 hh, p2.sx.n17 hh]
      simp only [Option.bind_some]
      refine ev_call (p2.call R so hw' hh) (fun r hr => ?_)
      obtain ⟨r1, r2, r3⟩ := hr
      have c9 := calN_le (f := f) (s := s) (i := c / 12) (hs := c % 12) hφ
      rw [r1]
      by_cases z0 : calN f φ s (c / 12) (c % 12) = 0
      · rw [if_pos (by rw [z0]; rfl)]
        have ec : clc f φ s c = s := zero_no z0
        have ec' : cal f φ s (c / 12) (c % 12) = s := ec
        rw [ec'] at r2
        exact fin r.2 r2 (by rw [ec]; exact hn1)
      · rw [if_neg (by rw [nl0, nI_eq (by omega) (by decide)]; exact z0)]
        have so1 : ScOk (foW f) (clc f φ s c) := cal_ok so
        have r2' : ThP f φ (clc f φ s c) h r.2 := r2
        have back : ∀ x : Hp, ThP f φ (clc f φ s c) h x → NoC f φ (clc f φ s c) → Ev (j_X7_searchFewest_147 (nI c) (nI (c / 12)) (nI (c % 12)) (nI (scN s (c % 12))) x) (Sum.elim (fun t : Int32 × Hp => c < 12 * foW f ∧ t.1 = nI (c + 1) ∧ ThP f φ s h t.2 ∧ ∀ d, d < c + 1 → NoC f φ (clc f φ s d)) (fun o => Sum.elim (fun a : Int32 × Hp => ThP f φ s h a.2 ∧ ∀ c, c < 12 * foW f → NoC f φ (clc f φ s c)) (fun r : Int32 × Hp => ThP f φ s h r.2 ∧ OutC f φ s (r.2.1 49) r.1) o)) := by
          intro x hx hn
          obtain ⟨y, y1, y2, y3⟩ := ThP.un h12 hx z0 hw'
          unfold j_X7_searchFewest_147 j_X7_searchFewest_148
          rw [wr_18 hh]
          simp only [Option.bind_some]
          rw [y1]
          simp only [Option.bind_some]
          rw [if_pos trivial]
          exact fin y y2 hn
        refine ev_call (fbk_x so1 r2'.sx) (fun t ht => ?_)
        rcases ht with ⟨t1, t2⟩ | ⟨b, t1, t2, t3, t4, t5⟩
        · exact absurd t2 (hn1 c (by omega))
        · rw [if_neg (by rw [t3]; exact nI_m2 (by omega))]
          refine ev_call (lbk_x so1 r2'.sx) (fun l hl => ?_)
          rcases hl with ⟨l1, l2⟩ | ⟨b', l1, l2, l3, l4, l5⟩
          · exact absurd l2 (hn1 c (by omega))
          · rw [t3, l3]
            by_cases e : b = b'
            · rw [if_pos (by rw [e])]
              refine ev_call (men_c R so1 r2' t1 t2 (k := 1) (by decide) t4) (fun v hv => ?_)
              obtain ⟨v1, v2, v3⟩ := hv
              rcases v3 with ⟨v4, d, v5, v6⟩ | ⟨v4, v5⟩
              · rw [v4, if_neg (by decide)]
                obtain ⟨y, y1, y2, y3⟩ := ThP.un h12 v1 z0 hw'
                unfold j_X7_searchFewest_148
                rw [wr_18 hh]
                simp only [Option.bind_some]
                rw [y1]
                simp only [Option.bind_some]
                rw [if_neg (by decide), nl0, wr_49 (by decide)]
                refine ev_some ⟨y2.st 0 _, Or.inr (Or.inr (Or.inl ⟨rfl, hno, hn1, c, d, by omega, p3, v5, ?_, ?_⟩))⟩
                · show (stI y 49 0 _).1 49 0 = _
                  rw [stI_at, if_pos rfl, if_pos rfl]
                · show (stI y 49 0 _).1 49 1 = _
                  rw [stI_at, if_pos rfl, if_neg (by decide), y3, v6]
              · rw [v4, if_pos rfl]
                exact back v.2 v1 v5
            · rw [if_neg (by rw [nI_eq (by omega) (by omega)]; exact e)]
              exact back r.2 r2' (two_no so1 t1 t2 l1 l2 t4 l4 e)
  · cases o with
    | inl a => exact ev_some ⟨ho.1, Or.inr (Or.inr (Or.inr ⟨rfl, hno, hn1, ho.2⟩))⟩
    | inr a => exact ev_some ho
theorem sf_x {f : Fo} {s : Sc} {φ : Ph} {h : Hp} (R : RX f s φ h) : Ev (f_X7_searchFewest h) fun r => ThP f φ s h r.2 ∧ OutC f φ s (r.2.1 49) r.1 := by
  have so := R.2.2.2.1
  obtain ⟨g, g1, g2⟩ := RX.start R
  have T0 : ThP f φ s h g := ⟨h, Kp.refl R.1, g2, (g2.1.i 49 (by decide)).symm⟩
  unfold f_X7_searchFewest
  rw [g1]
  simp only [Option.bind_some]
  refine ev_call (fbk_x so g2.2) (fun t ht => ?_)
  rcases ht with ⟨t1, t2⟩ | ⟨b, t1, t2, t3, t4, t5⟩
  · rw [if_pos t1]
    exact ev_some ⟨T0, Or.inl ⟨rfl, t2⟩⟩
  · rw [if_neg (by rw [t3]; exact nI_m2 (by omega))]
    have hno : ¬ Ord s := fun ho => ho b t1 t2 t4
    refine ev_call (lbk_x so g2.2) (fun l hl => ?_)
    rcases hl with ⟨l1, l2⟩ | ⟨b', l1, l2, l3, l4, l5⟩
    · exact absurd l2 hno
    · rw [t3, l3]
      by_cases e : b = b'
      · rw [if_pos (by rw [e])]
        refine ev_call (men_c R so T0 t1 t2 (k := 0) (by decide) t4) (fun v hv => ?_)
        obtain ⟨v1, v2, v3⟩ := hv
        rcases v3 with ⟨v4, d, v5, v6⟩ | ⟨v4, v5⟩
        · rw [v4, if_neg (by decide)]
          exact ev_some ⟨v1, Or.inr (Or.inl ⟨rfl, hno, d, v5, v6⟩)⟩
        · rw [v4, if_pos rfl]
          exact sf_loop R v1 hno v5
      · rw [if_neg (by rw [nI_eq (by omega) (by omega)]; exact e)]
        exact sf_loop R T0 hno (two_no so t1 t2 l1 l2 t4 l4 e)
/-! the reference's search -/
def ThQ (f : Fo) (φ : Ph) (s s' : Sc) (h g : Hp) : Prop := ∃ h0, Kp [84] h h0 ∧ ThM f φ s s' 82 h0 g ∧ h0.1 84 = g.1 84
theorem RM.p84 {f : Fo} {s : Sc} {φ : Ph} {h h0 : Hp} (R : RM f s φ h) (K : Kp [84] h h0) : RM f s φ h0 := by
  obtain ⟨q, hφ, ok, so, F, S, L⟩ := R
  have e53 := K.i 53 (by decide)
  exact ⟨K.1, hφ, ok, so, F.kp K (by rw [e53]) (by rw [e53]) (by decide), S.kp K (by rw [e53]) (by decide), L.kp K (by rw [e53]) (by rw [e53]) (by decide)⟩
theorem ThQ.st {f : Fo} {φ : Ph} {s s' : Sc} {h g : Hp} (T : ThQ f φ s s' h g) (i : Nat) (v : Int32) : ThQ f φ s s' h (stI g 84 i v) := by
  obtain ⟨h0, K, ⟨t1, t2, t3, k, t4, t5⟩, e⟩ := T
  refine ⟨stI h0 84 i v, K.st (by decide), ⟨⟨t1.1, fun c hc => ⟨?_, (t1.2 c hc).2⟩⟩, t2, ⟨t3.1, t3.2.1, t3.2.2.1, t3.2.2.2⟩, k, t4, t5⟩, ?_⟩
  · by_cases z : c = 84
    · subst z
      funext j
      rw [stI_at, stI_at, if_pos rfl, if_pos rfl, e]
    · have h1 := (t1.2 c hc).1
      funext j
      rw [stI_at, stI_at, if_neg z, if_neg z, h1]
  · funext j
    rw [stI_at, stI_at, if_pos rfl, if_pos rfl, e]
theorem ThQ.call {f : Fo} {s s' : Sc} {φ : Ph} {h g : Hp} (R : RM f s φ h) (so' : ScOk (foW f) s') (T : ThQ f φ s s' h g) {i hs : Nat} (hi : i < foW f) (hh : hs < 12) : Ev (f_X8_calls (nI i) (nI hs) g) fun r => r.1 = nI (calN f φ s' i hs) ∧ ThQ f φ s (cal f φ s' i hs) h r.2 ∧ r.2.1 84 = g.1 84 := by
  obtain ⟨h0, K, T, e⟩ := T
  refine ev_mono (RM.call (R.p84 K) so' (Or.inl rfl) T hi hh) (fun r hr => ?_)
  have e2 : r.2.1 84 = h0.1 84 := hr.2.1.i 84 (by decide)
  exact ⟨hr.1, ⟨h0, K, hr.2, e2.symm⟩, by rw [e2, e]⟩
theorem ThQ.lay {f : Fo} {s s' : Sc} {φ : Ph} {h g : Hp} (R : RM f s φ h) (T : ThQ f φ s s' h g) : Ev (f_X8_laysBack 82 g) fun r => ThQ f φ s s h r ∧ r.1 84 = g.1 84 := by
  obtain ⟨h0, K, T, e⟩ := T
  refine ev_mono (RM.stop (R.p84 K) (Or.inl rfl) T) (fun r hr => ?_)
  obtain ⟨r1, r2, r3, r4⟩ := hr
  obtain ⟨_, _, _, k, k1, k2⟩ := T
  have e2 : r.1 84 = h0.1 84 := r2.i 84 (by decide)
  exact ⟨⟨h0, K, ⟨r2, fun j _ => r3 j, r1.2.2.2.2.2.1, k, k1, by rw [r4, k2]⟩, e2.symm⟩, by rw [e2, e]⟩
theorem ThQ.sm {f : Fo} {s s' : Sc} {φ : Ph} {h g : Hp} (T : ThQ f φ s s' h g) : ScM (foW f) s' g := by
  obtain ⟨h0, K, T, e⟩ := T
  exact T.2.2.1
theorem ThQ.fo {f : Fo} {s s' : Sc} {φ : Ph} {h g : Hp} (R : RM f s φ h) (T : ThQ f φ s s' h g) : FoM f g := by
  obtain ⟨h0, K, T, e⟩ := T
  exact (RM.fo (R.p84 K) (Or.inl rfl) T).1
def seqS (f : Fo) (φ : Ph) (s : Sc) (cs : Nat → Nat) : Nat → Sc
  | 0 => s
  | k + 1 => clc f φ (seqS f φ s cs k) (cs k)
theorem seq_ok {f : Fo} {φ : Ph} {s : Sc} {cs : Nat → Nat} {W : Nat} (so : ScOk W s) : ∀ k, ScOk W (seqS f φ s cs k)
  | 0 => so
  | k + 1 => cal_ok (seq_ok so k)
theorem seq_congr {f : Fo} {φ : Ph} {s : Sc} {cs ds : Nat → Nat} : ∀ k, (∀ i, i < k → cs i = ds i) → seqS f φ s cs k = seqS f φ s ds k
  | 0, _ => rfl
  | k + 1, h => by
    rw [seqS, seqS, seq_congr k (fun i hi => h i (by omega)), h k (by omega)]
theorem leaf_m {f : Fo} {s s' : Sc} {φ : Ph} {h g : Hp} (R : RM f s φ h) (T : ThQ f φ s s' h g) {cs : Nat → Nat} {n : Nat} (hn : n ≤ 2) (hc : ∀ k, k < n → cs k < 12 * foW f ∧ g.1 84 k = nI (cs k)) (F : Nat) : Ev (fG_GN (F + 1) 0 [nI n, nI n] g) fun r => ((r.1 = 1 ∧ Ord (seqS f φ s cs n)) ∨ (r.1 = 0 ∧ ¬ Ord (seqS f φ s cs n))) ∧ ThQ f φ s (seqS f φ s cs n) h r.2 ∧ r.2.1 84 = g.1 84 := by
  have h12 := R.2.2.1.2.1
  show Ev (m_X8_isEnough (fG_GN F) (nI n) (nI n) g) _
  unfold m_X8_isEnough
  rw [if_pos rfl]
  refine ev_call (T.lay R) (fun r hr => ?_)
  obtain ⟨r1, r2⟩ := hr
  refine ev_call (P := fun u : Int32 × Hp => ThQ f φ s (seqS f φ s cs n) h u.2 ∧ u.2.1 84 = g.1 84) (ev_for (k := 0) (fun k (u : Int32 × Hp) => u.1 = nI k ∧ ThQ f φ s (seqS f φ s cs k) h u.2 ∧ u.2.1 84 = g.1 84) n (fun k u hk hu => ?_) ⟨rfl, r1, r2⟩ (Nat.zero_le _) (by rw [FUe]; omega)) (fun u hu => ?_)
  · obtain ⟨y, g'⟩ := u
    obtain ⟨p1, p2, p3⟩ := hu
    simp only at p1 p2 p3
    subst p1
    unfold b_X8_isEnough_15
    by_cases z : n ≤ k
    · have e : k = n := by omega
      rw [if_pos (nI_le z (by omega))]
      exact ev_some ⟨by rw [← e]; exact p2, p3⟩
    · rw [if_neg (by rw [nI_leI (by omega) (by omega)]; exact z)]
      obtain ⟨c1, c2⟩ := hc k (by omega)
      simp only
      rw [rd_84 (by omega), p3, c2]
      simp only [Option.bind_some]
      rw [nl12, nI_div (by omega) (by decide), nI_mod (by omega) (by decide)]
      refine ev_call (p2.call R (seq_ok R.2.2.2.1 k) (show cs k / 12 < foW f by omega) (Nat.mod_lt _ (by decide))) (fun t ht => ev_some ⟨by omega, by rw [nl1, nI_add], ht.2.1, by rw [ht.2.2, p3]⟩)
  · refine ev_call (ord_m (seq_ok R.2.2.2.1 n) hu.1.sm) (fun t ht => ev_some ⟨ht, hu.1, hu.2⟩)
theorem inner_m {f : Fo} {s s' : Sc} {φ : Ph} {h g : Hp} (R : RM f s φ h) (T : ThQ f φ s s' h g) {cs : Nat → Nat} {i : Nat} (hi : i ≤ 1) (hc : ∀ k, k < i → cs k < 12 * foW f ∧ g.1 84 k = nI (cs k)) (F : Nat) : Ev (fG_GN (F + 2) 0 [nI i, nI (i + 1)] g) fun r => ((r.1 = 1 ∧ ∃ c, OneC f φ (seqS f φ s cs i) c ∧ r.2.1 84 i = nI c) ∨ (r.1 = 0 ∧ NoC f φ (seqS f φ s cs i))) ∧ (∀ k, k < i → r.2.1 84 k = g.1 84 k) ∧ ∃ s'', ThQ f φ s s'' h r.2 := by
  have h12 := R.2.2.1.2.1
  show Ev (m_X8_isEnough (fG_GN (F + 1)) (nI i) (nI (i + 1)) g) _
  unfold m_X8_isEnough
  rw [if_neg (by rw [nI_eq (by omega) (by omega)]; omega)]
  refine ev_call (P := fun o : (Int32 × Hp) ⊕ (Int32 × Hp) => Sum.elim (fun a : Int32 × Hp => NoC f φ (seqS f φ s cs i) ∧ (∀ k, k < i → a.2.1 84 k = g.1 84 k) ∧ ∃ s'', ThQ f φ s s'' h a.2) (fun r : Int32 × Hp => (r.1 = 1 ∧ ∃ c, OneC f φ (seqS f φ s cs i) c ∧ r.2.1 84 i = nI c) ∧ (∀ k, k < i → r.2.1 84 k = g.1 84 k) ∧ ∃ s'', ThQ f φ s s'' h r.2) o) (ev_for (k := 0) (fun c (u : Int32 × Hp) => u.1 = nI c ∧ (∀ d, d < c → ¬ Ord (clc f φ (seqS f φ s cs i) d)) ∧ (∀ k, k < i → u.2.1 84 k = g.1 84 k) ∧ ∃ s'', ThQ f φ s s'' h u.2) (12 * foW f) (fun c u hk hu => ?_) ⟨rfl, fun d hd => absurd hd (Nat.not_lt_zero d), fun _ _ => rfl, s', T⟩ (Nat.zero_le _) (by rw [FUe]; omega)) (fun o ho => ?_)
  · obtain ⟨y, g'⟩ := u
    obtain ⟨p1, p2, p3, s2, p4⟩ := hu
    simp only at p1 p2 p3 p4
    subst p1
    unfold b_X8_isEnough_56
    rw [(p4.fo R).2.1]
    simp only
    rw [nl12, nI_mul]
    by_cases z : 12 * foW f ≤ c
    · have e : c = 12 * foW f := by omega
      rw [if_pos (nI_le z (by omega))]
      exact ev_some ⟨fun d hd => p2 d (by omega), p3, s2, p4⟩
    · rw [if_neg (by rw [nI_leI (by omega) (by omega)]; omega), wr_84 (by omega)]
      simp only [Option.bind_some]
      rw [nl1, nI_add]
      have hcs : ∀ k, k < i + 1 → upN cs i c k < 12 * foW f ∧ (stI g' 84 i (nI c)).1 84 k = nI (upN cs i c k) := by
        intro k hk'
        rw [upN_at, stI_at, if_pos rfl]
        by_cases e : k = i
        · rw [if_pos e, if_pos e]; exact ⟨by omega, rfl⟩
        · rw [if_neg e, if_neg e]
          obtain ⟨c1, c2⟩ := hc k (by omega)
          exact ⟨c1, by rw [p3 k (by omega), c2]⟩
      refine ev_call (leaf_m R (p4.st i (nI c)) (cs := upN cs i c) (n := i + 1) (by omega) hcs F) (fun r hr => ?_)
      obtain ⟨r1, r2, r3⟩ := hr
      have es : seqS f φ s (upN cs i c) (i + 1) = clc f φ (seqS f φ s cs i) c := by
        rw [seqS, seq_congr (ds := cs) i (fun k hk' => by rw [upN_at, if_neg (by omega)]), upN_at, if_pos rfl]
      rw [es] at r1
      have k3 : ∀ k, k < i → r.2.1 84 k = g.1 84 k := by
        intro k hk'
        rw [r3, stI_at, if_pos rfl, if_neg (by omega), p3 k hk']
      rcases r1 with ⟨r1, r4⟩ | ⟨r1, r4⟩
      · rw [if_neg (by rw [r1]; decide)]
        refine ev_some ⟨⟨rfl, c, ⟨by omega, r4, p2⟩, ?_⟩, k3, _, r2⟩
        show r.2.1 84 i = _
        rw [r3, stI_at, if_pos rfl, if_pos rfl]
      · rw [if_pos (by rw [r1])]
        refine ev_some ⟨by omega, nI_add _ _, fun d hd => ?_, k3, _, r2⟩
        by_cases e : d = c
        · rw [e]; exact r4
        · exact p2 d (by omega)
  · cases o with
    | inl a => exact ev_some ⟨Or.inr ⟨rfl, ho.1⟩, ho.2⟩
    | inr a => exact ev_some ⟨Or.inl ho.1, ho.2⟩
theorem outer_m {f : Fo} {s s' : Sc} {φ : Ph} {h g : Hp} (R : RM f s φ h) (T : ThQ f φ s s' h g) (F : Nat) : Ev (fG_GN (F + 3) 0 [nI 0, nI 2] g) fun r => ((r.1 = 1 ∧ ∃ c d, c < 12 * foW f ∧ (∀ e, e < c → NoC f φ (clc f φ s e)) ∧ OneC f φ (clc f φ s c) d ∧ r.2.1 84 0 = nI c ∧ r.2.1 84 1 = nI d) ∨ (r.1 = 0 ∧ ∀ c, c < 12 * foW f → NoC f φ (clc f φ s c))) ∧ ∃ s'', ThQ f φ s s'' h r.2 := by
  have h12 := R.2.2.1.2.1
  show Ev (m_X8_isEnough (fG_GN (F + 2)) (nI 0) (nI 2) g) _
  unfold m_X8_isEnough
  rw [if_neg (by decide)]
  refine ev_call (P := fun o : (Int32 × Hp) ⊕ (Int32 × Hp) => Sum.elim (fun a : Int32 × Hp => (∀ c, c < 12 * foW f → NoC f φ (clc f φ s c)) ∧ ∃ s'', ThQ f φ s s'' h a.2) (fun r : Int32 × Hp => (r.1 = 1 ∧ ∃ c d, c < 12 * foW f ∧ (∀ e, e < c → NoC f φ (clc f φ s e)) ∧ OneC f φ (clc f φ s c) d ∧ r.2.1 84 0 = nI c ∧ r.2.1 84 1 = nI d) ∧ ∃ s'', ThQ f φ s s'' h r.2) o) (ev_for (k := 0) (fun c (u : Int32 × Hp) => u.1 = nI c ∧ (∀ d, d < c → NoC f φ (clc f φ s d)) ∧ ∃ s'', ThQ f φ s s'' h u.2) (12 * foW f) (fun c u hk hu => ?_) ⟨rfl, fun d hd => absurd hd (Nat.not_lt_zero d), s', T⟩ (Nat.zero_le _) (by rw [FUe]; omega)) (fun o ho => ?_)
  · obtain ⟨y, g'⟩ := u
    obtain ⟨p1, p2, s2, p4⟩ := hu
    simp only at p1 p2 p4
    subst p1
    unfold b_X8_isEnough_56
    rw [(p4.fo R).2.1]
    simp only
    rw [nl12, nI_mul]
    by_cases z : 12 * foW f ≤ c
    · have e : c = 12 * foW f := by omega
      rw [if_pos (nI_le z (by omega))]
      exact ev_some ⟨fun d hd => p2 d (by omega), s2, p4⟩
    · rw [if_neg (by rw [nI_leI (by omega) (by omega)]; omega), wr_84 (by decide)]
      simp only [Option.bind_some]
      rw [nl1, nI_add]
      have hcs : ∀ k, k < 0 + 1 → c < 12 * foW f ∧ (stI g' 84 0 (nI c)).1 84 k = nI c := by
        intro k hk'
        have : k = 0 := by omega
        subst this
        exact ⟨by omega, rfl⟩
      refine ev_call (inner_m R (p4.st 0 (nI c)) (cs := fun _ => c) (i := 0 + 1) (by decide) hcs F) (fun r hr => ?_)
      obtain ⟨r1, r3, s3, r2⟩ := hr
      have k3 : r.2.1 84 0 = nI c := by rw [r3 0 (by decide)]; rfl
      rcases r1 with ⟨r1, d, r4, r5⟩ | ⟨r1, r4⟩
      · rw [if_neg (by rw [r1]; decide)]
        exact ev_some ⟨⟨rfl, c, d, by omega, p2, r4, k3, r5⟩, s3, r2⟩
      · rw [if_pos (by rw [r1])]
        refine ev_some ⟨by omega, nI_add _ _, fun d hd => ?_, s3, r2⟩
        by_cases e : d = c
        · rw [e]; exact r4
        · exact p2 d (by omega)
  · cases o with
    | inl a => exact ev_some ⟨Or.inr ⟨rfl, ho.1⟩, ho.2⟩
    | inr a => exact ev_some ⟨Or.inl ho.1, ho.2⟩
theorem few_m {f : Fo} {s : Sc} {φ : Ph} {h g : Hp} {a1 : Int32} (R : RM f s φ h) (T : ThQ f φ s s h g) : Ev (iter (b_X8_fewest_20 a1) FU ((-2), 0, g)) fun u => OutC f φ s (u.2.2.1 84) u.1 ∧ ∃ s'', ThQ f φ s s'' h u.2.2 := by
  refine ev_for (k := 0) (fun n (u : Int32 × Int32 × Hp) => u.2.1 = nI n ∧ (∃ s'', ThQ f φ s s'' h u.2.2) ∧ ((u.1 = -2 ∧ (0 < n → ¬ Ord s) ∧ (1 < n → NoC f φ s) ∧ (2 < n → ∀ c, c < 12 * foW f → NoC f φ (clc f φ s c))) ∨ (¬ u.1 = -2 ∧ OutC f φ s (u.2.2.1 84) u.1))) 3 (fun n u hn hu => ?_) ⟨rfl, ⟨s, T⟩, Or.inl ⟨rfl, fun e => absurd e (by decide), fun e => absurd e (by decide), fun e => absurd e (by decide)⟩⟩ (Nat.zero_le _) (by rw [FUe]; decide)
  obtain ⟨y, y2, g'⟩ := u
  obtain ⟨p1, ⟨s2, p2⟩, p3⟩ := hu
  simp only at p1 p2 p3
  subst p1
  unfold b_X8_fewest_20
  by_cases z : 3 ≤ n
  · have e : n = 3 := by omega
    rw [if_pos (by rw [nl3]; exact nI_le z (by omega))]
    rcases p3 with ⟨q1, q2, q3, q4⟩ | ⟨q1, q2⟩
    · exact ev_some ⟨Or.inr (Or.inr (Or.inr ⟨q1, q2 (by omega), q3 (by omega), q4 (by omega)⟩)), s2, p2⟩
    · exact ev_some ⟨q2, s2, p2⟩
  · rw [if_neg (by rw [nl3, nI_leI (by decide) (by omega)]; exact z)]
    rcases p3 with ⟨q1, q2, q3, q4⟩ | ⟨q1, q2⟩
    rotate_left
    · rw [if_neg q1]; exact ev_some ⟨q2, s2, p2⟩
    simp only
    rw [if_pos q1]
    have nx : nI n + 1 = nI (n + 1) := by rw [nl1, nI_add]
    have hn3 : n = 0 ∨ n = 1 ∨ n = 2 := by omega
    unfold f_X8_isEnough
    rcases hn3 with rfl | rfl | rfl
    · refine ev_call (leaf_m R p2 (cs := fun _ => 0) (n := 0) (by decide) (fun k hk => absurd hk (Nat.not_lt_zero k)) 5) (fun r hr => ?_)
      obtain ⟨r1, r2, r3⟩ := hr
      rcases r1 with ⟨r1, r4⟩ | ⟨r1, r4⟩
      · rw [if_neg (by rw [r1]; decide)]
        exact ev_some ⟨by decide, nx, ⟨_, r2⟩, Or.inr ⟨nI_m2 (n := 0) (by decide), Or.inl ⟨rfl, r4⟩⟩⟩
      · rw [if_pos (by rw [r1])]
        exact ev_some ⟨by decide, nx, ⟨_, r2⟩, Or.inl ⟨q1, fun _ => r4, fun e => absurd e (by decide), fun e => absurd e (by decide)⟩⟩
    · refine ev_call (inner_m R p2 (cs := fun _ => 0) (i := 0) (by decide) (fun k hk => absurd hk (Nat.not_lt_zero k)) 4) (fun r hr => ?_)
      obtain ⟨r1, r3, s3, r2⟩ := hr
      rcases r1 with ⟨r1, c, r4, r5⟩ | ⟨r1, r4⟩
      · rw [if_neg (by rw [r1]; decide)]
        exact ev_some ⟨by decide, nx, ⟨_, r2⟩, Or.inr ⟨nI_m2 (n := 1) (by decide), Or.inr (Or.inl ⟨rfl, q2 (by decide), c, r4, r5⟩)⟩⟩
      · rw [if_pos (by rw [r1])]
        exact ev_some ⟨by decide, nx, ⟨_, r2⟩, Or.inl ⟨q1, fun _ => q2 (by decide), fun _ => r4, fun e => absurd e (by decide)⟩⟩
    · refine ev_call (outer_m R p2 3) (fun r hr => ?_)
      obtain ⟨r1, s3, r2⟩ := hr
      rcases r1 with ⟨r1, c, d, r4, r5, r6, r7, r8⟩ | ⟨r1, r4⟩
      · rw [if_neg (by rw [r1]; decide)]
        exact ev_some ⟨by decide, nx, ⟨_, r2⟩, Or.inr ⟨nI_m2 (n := 2) (by decide), Or.inr (Or.inr (Or.inl ⟨rfl, q2 (by decide), q3 (by decide), c, d, r4, r5, r6, r7, r8⟩))⟩⟩
      · rw [if_pos (by rw [r1])]
        exact ev_some ⟨by decide, nx, ⟨_, r2⟩, Or.inl ⟨q1, fun _ => q2 (by decide), fun _ => q3 (by decide), fun _ => r4⟩⟩
theorem RelA.q_end {f : Fo} {s s' : Sc} {φ : Ph} {b : Nat} {h g : Hp} (R : RelA f s φ b h) (T : ThQ f φ s s h g) : Rel g := by
  obtain ⟨h0, K, ⟨t1, t2, t3, _⟩, e⟩ := T
  have R0 : RelA f s φ b h0 := R.scr (K.mono (by decide)) (R.thk.eq (K.i 17 (by decide)))
  exact ⟨f, s, φ, b, R0.up (t1.mono (by decide)) t2 R.1.2.2.2 (R0.2.1.2.2.1.eq (t1.i 13 (by decide)) (t1.i 14 (by decide)) (t1.i 15 (by decide))) t3 (R0.2.2.2.1.eq (t1.i 16 (by decide)) (t1.i 73 (by decide))) (R0.thk.eq (t1.i 17 (by decide)))⟩
theorem a_fewest (v : Int32) (h : Hp) (R : Rel h) : Ag (f_X7_fewest v h) (f_X8_fewest v) := by
  have R0 := R
  obtain ⟨f, s, φ, b, R0A⟩ := R
  by_cases q : -1 ≤ v
  rotate_left
  · refine ag_same R0 (v := -1) ?_ ?_
    · unfold f_X7_fewest; rw [if_neg q]
    · unfold f_X8_fewest; rw [if_neg q]
  unfold Ag f_X7_fewest
  rw [if_pos q]
  refine ev_call (sf_x R0A.rx) (fun r hr => ?_)
  obtain ⟨r1, r2⟩ := hr
  obtain ⟨RA, K⟩ := ThP.rel R0A r1
  have key : ∀ x : Int32, (∀ (y : Int32) (B : Nat → Int32), OutC f φ s B y → x = (if y = -2 then y else if v = -1 then y else if y ≤ v then -2 else if v = nI 0 then B 0 else B 1)) → Ev (f_X8_fewest v r.2) fun t => x = t.1 ∧ Rel t.2 := by
    intro x hx
    unfold f_X8_fewest
    rw [if_pos q]
    refine ev_call (RM.start RA.rm (Or.inl rfl)) (fun g hg => ?_)
    have T0 : ThQ f φ s s r.2 g := ⟨r.2, Kp.refl RA.1.1, hg, (hg.1.i 84 (by decide)).symm⟩
    refine ev_call (few_m RA.rm T0) (fun u hu => ?_)
    obtain ⟨u1, s2, u2⟩ := hu
    unfold j_X8_fewest_48
    refine ev_call (u2.lay RA.rm) (fun k hk => ?_)
    obtain ⟨k1, k2⟩ := hk
    have RR : Rel k := RelA.q_end (s' := s) RA k1
    have hx' := hx u.1 (u.2.2.1 84) u1
    refine ev_if (fun c => ev_some ⟨by rw [hx', if_pos c], RR⟩) (fun c => ?_)
    rw [if_neg c] at hx'
    refine ev_if (fun c => ev_some ⟨by rw [hx', if_pos c], RR⟩) (fun c => ?_)
    rw [if_neg c] at hx'
    refine ev_if (fun c => ev_some ⟨by rw [hx', if_pos c], RR⟩) (fun c => ?_)
    rw [if_neg c] at hx'
    have hv : v = nI 0 ∨ v = nI 1 := by
      have hu2 : ∃ m, m ≤ 2 ∧ u.1 = nI m := by
        rcases u1 with ⟨e, _⟩ | ⟨e, _⟩ | ⟨e, _⟩ | ⟨e, _⟩
        · exact ⟨0, by decide, e⟩
        · exact ⟨1, by decide, e⟩
        · exact ⟨2, by decide, e⟩
        · rename_i c0 _ _; exact absurd e c0
      obtain ⟨m, m1, m2⟩ := hu2
      rcases i32_split v with ⟨n, hn, rfl⟩ | hv
      · rw [m2, nI_leI (by omega) hn] at c
        have : n = 0 ∨ n = 1 := by omega
        rcases this with rfl | rfl
        · exact Or.inl rfl
        · exact Or.inr rfl
      · rename_i c1
        have h1 : v.toInt ≠ -1 := fun x => c1 (Int32.toInt_inj.mp (by rw [x]; decide))
        rw [Int32.lt_iff_toInt_lt, show (0 : Int32).toInt = 0 by decide] at hv
        rw [Int32.le_iff_toInt_le, show (-1 : Int32).toInt = -1 by decide] at q
        omega
    rcases hv with rfl | rfl
    · rw [if_pos rfl] at hx'
      rw [rd_84 (by decide), k2]
      exact ev_some ⟨hx', RR⟩
    · rw [if_neg (by decide)] at hx'
      rw [rd_84 (by decide), k2]
      exact ev_some ⟨hx', RR⟩
  refine ev_if (fun c => ⟨_, rfl, key _ (fun y B hB => ?_)⟩) (fun c => ?_)
  · obtain ⟨e1, _⟩ := OutC.det r2 hB
    rw [← e1, if_pos c]
  refine ev_if (fun c1 => ⟨_, rfl, key _ (fun y B hB => ?_)⟩) (fun c1 => ?_)
  · obtain ⟨e1, _⟩ := OutC.det r2 hB
    rw [← e1, if_neg c, if_pos c1]
  refine ev_if (fun c2 => ⟨_, rfl, key _ (fun y B hB => ?_)⟩) (fun c2 => ?_)
  · obtain ⟨e1, _⟩ := OutC.det r2 hB
    rw [← e1, if_neg c, if_neg c1, if_pos c2]
  have hu2 : r.1 = nI 0 ∨ r.1 = nI 1 ∨ r.1 = nI 2 := by
    rcases r2 with ⟨e, _⟩ | ⟨e, _⟩ | ⟨e, _⟩ | ⟨e, _⟩
    · exact Or.inl e
    · exact Or.inr (Or.inl e)
    · exact Or.inr (Or.inr e)
    · exact absurd e c
  have hv : (v = nI 0 ∧ (r.1 = nI 1 ∨ r.1 = nI 2)) ∨ (v = nI 1 ∧ r.1 = nI 2) := by
    rcases i32_split v with ⟨n, hn, rfl⟩ | hv
    · rcases hu2 with e | e | e
      · rw [e, nI_leI (by decide) hn] at c2; omega
      · rw [e, nI_leI (by decide) hn] at c2
        have : n = 0 := by omega
        subst this
        exact Or.inl ⟨rfl, Or.inl e⟩
      · rw [e, nI_leI (by decide) hn] at c2
        have : n = 0 ∨ n = 1 := by omega
        rcases this with rfl | rfl
        · exact Or.inl ⟨rfl, Or.inr e⟩
        · exact Or.inr ⟨rfl, e⟩
    · have h1 : v.toInt ≠ -1 := fun x => c1 (Int32.toInt_inj.mp (by rw [x]; decide))
      rw [Int32.lt_iff_toInt_lt, show (0 : Int32).toInt = 0 by decide] at hv
      rw [Int32.le_iff_toInt_le, show (-1 : Int32).toInt = -1 by decide] at q
      omega
  rw [show lnI 49 = some (nI 2) by decide]
  simp only [Option.bind_some]
  rcases hv with ⟨rfl, hr⟩ | ⟨rfl, hr⟩
  · rw [if_neg (by decide), rd_49 (by decide)]
    refine ⟨_, rfl, key _ (fun y B hB => ?_)⟩
    obtain ⟨e1, e2, e3⟩ := OutC.det r2 hB
    rw [← e1, if_neg c, if_neg c1, if_neg c2, if_pos rfl]
    rcases hr with hr | hr
    · exact e2 hr
    · exact (e3 hr).1
  · rw [if_neg (by decide), rd_49 (by decide)]
    refine ⟨_, rfl, key _ (fun y B hB => ?_)⟩
    obtain ⟨e1, e2, e3⟩ := OutC.det r2 hB
    rw [← e1, if_neg c, if_neg c1, if_neg c2, if_neg (by decide)]
    exact (e3 hr).2
