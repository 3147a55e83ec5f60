/-! the class's game: each alone -/
def moN (f : Fo) (φ : Ph) (s : Sc) (p : Nat) : Nat → Nat := fmx (mayB f s p) (fun w => cnt f φ s w (foH f p)) 0
theorem sc_cal {f : Fo} {φ : Ph} {s : Sc} {w hs : Nat} (hN : scN s hs ≤ 999) (hf : scF s w = false) : scN (cal f φ s w hs) hs = min 999 (scN s hs + cnt f φ s w hs) := by
  have hc : calN f φ s w hs = cnt f φ s w hs := by unfold calN; rw [hf]; rfl
  unfold cal
  rw [hc]
  split
  · rename_i z; rw [z]; omega
  · exact if_pos rfl
theorem bst_one {f : Fo} {φ : Ph} {s : Sc} {p : Nat} (hN : scN s (foH f p) ≤ 999) : bst f φ p 1 s = min 999 (scN s (foH f p) + moN f φ s p (foW f)) := by
  rw [bst]
  unfold moN
  have key : ∀ n, fmx (mayB f s p) (fun w => bst f φ p 0 (cal f φ s w (foH f p))) (bst f φ p 0 s) n = min 999 (scN s (foH f p) + fmx (mayB f s p) (fun w => cnt f φ s w (foH f p)) 0 n) := by
    intro n
    induction n with
    | zero => show scN s (foH f p) = min 999 (scN s (foH f p) + 0); omega
    | succ n ih =>
      rw [fmx, fmx, ih]
      cases e : mayB f s p n with
      | true =>
        rw [if_pos rfl, if_pos rfl]
        have hf : scF s n = false := by unfold mayB at e; simp at e; exact e.2
        rw [show bst f φ p 0 (cal f φ s n (foH f p)) = min 999 (scN s (foH f p) + cnt f φ s n (foH f p)) from sc_cal hN hf]
        omega
      | false => rw [if_neg (by decide), if_neg (by decide)]
  exact key _
def movS (f : Fo) (φ : Ph) (s : Sc) (p w : Nat) : Sc := if w < foW f then cal f φ s w (foH f p) else s
def nbN (f : Fo) (φ : Ph) (s : Sc) (p w t : Nat) : Nat := min 999 (scN (movS f φ s p w) (foH f p) + if 1 < t then moN f φ (movS f φ s p w) p (foW f) else 0)
theorem movS_ok {f : Fo} {φ : Ph} {s : Sc} {p w W : Nat} (so : ScOk W s) : ScOk W (movS f φ s p w) := by
  unfold movS; split
  · exact cal_ok so
  · exact so
theorem nb_bst {f : Fo} {φ : Ph} {s : Sc} {p w t W : Nat} (hp : foH f p < 12) (so : ScOk W s) (ht : 1 ≤ t) (h2 : t ≤ 2) : nbN f φ s p w t = bst f φ p (t - 1) (movS f φ s p w) := by
  have h9 := (movS_ok (f := f) (φ := φ) (p := p) (w := w) so).1 _ hp
  unfold nbN
  by_cases q : t = 1
  · rw [q, if_neg (by omega)]
    show min 999 (_ + 0) = scN _ _
    omega
  · have : t = 2 := by omega
    rw [this, if_pos (by omega)]
    exact (bst_one h9).symm
/-- the best so far, and what was forgiven first -/
def whN (f : Fo) (φ : Ph) (s : Sc) (p k : Nat) : Nat → Nat × Nat
  | 0 => (bst f φ p k s, 12)
  | w + 1 => if mayB f s p w && decide ((whN f φ s p k w).1 < bst f φ p k (cal f φ s w (foH f p))) then (bst f φ p k (cal f φ s w (foH f p)), w) else whN f φ s p k w
theorem whN_1 {f : Fo} {φ : Ph} {s : Sc} {p k : Nat} : ∀ w, (whN f φ s p k w).1 = fmx (mayB f s p) (fun w => bst f φ p k (cal f φ s w (foH f p))) (bst f φ p k s) w
  | 0 => rfl
  | w + 1 => by
    have ih := whN_1 (f := f) (φ := φ) (s := s) (p := p) (k := k) w
    rw [whN, fmx, ← ih]
    cases e : mayB f s p w with
    | true =>
      simp only [Bool.true_and, if_true, decide_eq_true_eq]
      split
      · rename_i z; show bst _ _ _ _ _ = _; omega
      · omega
    | false => simp
theorem whN_2 {f : Fo} {φ : Ph} {s : Sc} {p k : Nat} : ∀ w, w ≤ 12 → (whN f φ s p k w).2 ≤ 12
  | 0, _ => Nat.le_refl _
  | w + 1, h => by
    rw [whN]
    split
    · show w ≤ 12; omega
    · exact whN_2 w (by omega)
theorem whN_no {f : Fo} {φ : Ph} {s : Sc} {p k w : Nat} (h : mayB f s p w = false) : whN f φ s p k (w + 1) = whN f φ s p k w := by rw [whN, h, Bool.false_and, if_neg (by decide)]
theorem whN_yes {f : Fo} {φ : Ph} {s : Sc} {p k w : Nat} (h : mayB f s p w = true) : whN f φ s p k (w + 1) = if (whN f φ s p k w).1 < bst f φ p k (cal f φ s w (foH f p)) then (bst f φ p k (cal f φ s w (foH f p)), w) else whN f φ s p k w := by
  rw [whN, h]
  simp only [Bool.true_and, decide_eq_true_eq]
theorem whN_forg {f : Fo} {φ : Ph} {s : Sc} {p k w v : Nat} (h : scF s w = true) : ¬ (whN f φ s p k v).1 < bst f φ p k (cal f φ s w (foH f p)) := by
  have e : cal f φ s w (foH f p) = s := by unfold cal calN; rw [if_pos h, if_pos rfl]
  rw [e, whN_1]
  have := fmx_ge (c := mayB f s p) (v := fun w => bst f φ p k (cal f φ s w (foH f p))) (x0 := bst f φ p k s) v
  omega
theorem mostOf_x {f : Fo} {s s' : Sc} {φ : Ph} {h g : Hp} (R : RX f s φ h) (so' : ScOk (foW f) s') (T : ThX f φ s' h g) {p : Nat} (hp : p < foP f) : Ev (f_X7_mostOf (nI p) (nI (foH f p)) g) fun r => r.1 = nI (moN f φ s' p (foW f)) ∧ ThX f φ s' h r.2 := by
  obtain ⟨q, hφ, ok, so, F0, S, L0, t⟩ := R
  have h10 := ok.1
  have h12 := ok.2.1
  have hh := (ok.2.2.1 p hp).1
  have le9 : ∀ n, moN f φ s' p n ≤ 9 := fun n => fmx_le (by decide) (fun n => hφ _ _ _ _ _ _) n
  unfold f_X7_mostOf
  refine ev_call (P := fun u : Int32 × Int32 × Hp => u.1 = nI (moN f φ s' p (foW f)) ∧ ThX f φ s' h u.2.2) (ev_for (k := 0) (fun w (u : Int32 × Int32 × Hp) => u.1 = nI (moN f φ s' p w) ∧ u.2.1 = nI w ∧ ThX f φ s' h u.2.2) (foW f) (fun w u hw hu => ?_) ⟨rfl, rfl, T⟩ (Nat.zero_le _) (by rw [FUe]; omega)) (fun u hu => ev_some hu)
  obtain ⟨y, y2, g⟩ := u
  obtain ⟨p1, p2, p3⟩ := hu
  simp only at p1 p2 p3
  subst p1 p2
  have F := F0.kp p3.1 (by decide)
  unfold b_X7_mostOf_5
  rw [F.2.1]
  by_cases z : foW f ≤ w
  · have e : w = foW f := by omega
    rw [if_pos (nI_le z (by omega))]
    exact ev_some ⟨by rw [← e], p3⟩
  · have hw' : w < foW f := by omega
    have a2' := ok.2.2.2 w hw'
    have l9 := le9 w
    rw [if_neg (by rw [nI_leI (by omega) (by omega)]; exact z)]
    simp only
    rw [rd_5 (by omega), (F.2.2.2 w hw').2.1]
    simp only [Option.bind_some]
    by_cases q1 : foT f w = p
    · rw [if_pos (by rw [q1]), isForg_x ok17 h12 p3.2 hw']
      simp only [Option.bind_some]
      cases e : scF s' w with
      | true =>
        rw [if_neg (by decide)]
        exact ev_some ⟨hw', by show nI (moN f φ s' p w) = _; unfold moN; rw [fmx, if_neg (by unfold mayB; simp [e])], by rw [nl1, nI_add], p3⟩
      | false =>
        rw [if_pos (by decide)]
        have hmay : mayB f s' p w = true := by unfold mayB; simp [e, q1]
        refine ev_call (worth_k ok17 p3.1.1 ok so' F p3.2 (L0.kp p3.1 (by decide)) hw' hh) (fun r hr => ?_)
        have c9 : cnt f φ s' w (foH f p) ≤ 9 := hφ _ _ _ _ _ _
        have T2 : ThX f φ s' h r.2 := ⟨p3.1.trans (hr.2.mono (by decide)), p3.2.kp hr.2 (by decide) (by decide) (by decide)⟩
        have hs : moN f φ s' p (w + 1) = max (moN f φ s' p w) (cnt f φ s' w (foH f p)) := by unfold moN; rw [fmx, if_pos hmay]
        rw [hr.1]
        by_cases le : cnt f φ s' w (foH f p) ≤ moN f φ s' p w
        · rw [if_pos (nI_le le (by omega))]
          exact ev_some ⟨hw', by rw [hs, Nat.max_eq_left le], by rw [nl1, nI_add], T2⟩
        · rw [if_neg (by rw [nI_leI (by omega) (by omega)]; exact le)]
          exact ev_some ⟨hw', by rw [hs, Nat.max_eq_right (by omega)], by rw [nl1, nI_add], T2⟩
    · rw [if_neg (by rw [nI_eq (by omega) (by omega)]; exact q1)]
      exact ev_some ⟨hw', by show nI (moN f φ s' p w) = _; unfold moN; rw [fmx, if_neg (by unfold mayB; simp [q1])], by rw [nl1, nI_add], p3⟩
theorem unmove_x {f : Fo} {φ : Ph} {s : Sc} {W w hs : Nat} {g : Hp} (hW : W ≤ 12) (S : ScX W (cal f φ s w hs) 17 g) (hf : scF s w = false) (hw : w < W) : ∃ r, f_X5_setForgiven 17 (nI w) 0 (stI g 18 hs (nI (scN s hs))) = some r ∧ ScX W s 17 r ∧ (∀ q, Kp [11, 12, 17, 18, 19, 20] q g → Kp [11, 12, 17, 18, 19, 20] q r) ∧ r.1 49 = g.1 49 ∧ r = stI (stI g 18 hs (nI (scN s hs))) 17 3 (nI (msk (scF s) W)) := by
  have hN : ∀ i, i ≠ hs → scN (cal f φ s w hs) i = scN s i := fun i hi => by
    unfold cal; split
    · rfl
    · exact if_neg hi
  have hF : upN (scF (cal f φ s w hs)) w false = scF s := by
    unfold cal; split
    · exact upN_same hf
    · funext i
      show upN (upN (scF s) w true) w false i = _
      rw [upN_at, upN_at]
      by_cases e : i = w
      · rw [if_pos e, e, hf]
      · rw [if_neg e, if_neg e]
  have hD : scD (cal f φ s w hs) = scD s := by unfold cal; split <;> rfl
  have hT : scT (cal f φ s w hs) = scT s := by unfold cal; split <;> rfl
  have S1 : ScX W (scN s, scD s, scF (cal f φ s w hs), scT s) 17 (stI g 18 hs (nI (scN s hs))) := by
    refine ⟨fun i hi => ?_, fun i hi => ?_, S.2.2.1, ?_⟩
    · show (stI g 18 hs _).1 18 i = nI (scN s i)
      rw [stI_at, if_pos rfl]
      by_cases e : i = hs
      · rw [if_pos e, e]
      · rw [if_neg e, S.n17 hi, hN i e]
    · show g.1 19 i = nI (scD s i)
      rw [S.d17 hi, hD]
    · show g.1 17 4 = nI (scT s)
      rw [S.2.2.2, hT]
  have e0 := setF0 ok17 hW S1 hw
  have e1 : upN (scF ((scN s, scD s, scF (cal f φ s w hs), scT s) : Sc)) w false = scF s := hF
  rw [e1] at e0
  refine ⟨_, e0, ⟨S1.1, S1.2.1, rfl, S1.2.2.2⟩, fun q K => (K.st (by decide)).st (by decide), rfl, rfl⟩
theorem numB_x {f : Fo} {s s' : Sc} {φ : Ph} {h g : Hp} (R : RX f s φ h) (so' : ScOk (foW f) s') (T : ThX f φ s' h g) {p w t : Nat} (hp : p < foP f) (hw : w ≤ 12) (ht : t ≤ 2) : Ev (f_X7_numberBehind (nI p) (nI w) (nI t) g) fun r => r.1 = nI (nbN f φ s' p w t) ∧ ThX f φ s' h r.2 := by
  have ok := R.2.2.1
  have h10 := ok.1
  have h12 := ok.2.1
  have hh := (ok.2.2.1 p hp).1
  have F := R.2.2.2.2.1.kp T.1 (by decide)
  have hφ := R.2.1
  unfold f_X7_numberBehind
  rw [rd_2 (by omega), (F.2.2.1 p hp).1]
  simp only [Option.bind_some]
  rw [rd_18 hh, T.2.n17 hh]
  simp only [Option.bind_some]
  have fin : ∀ (s1 : Sc) (t0 : Int32) (g1 : Hp), ScOk (foW f) s1 → ThX f φ s1 h g1 → s1 = movS f φ s' p w → (∀ a7 g2, ThX f φ s1 h g2 → Ev (j_X7_numberBehind_84 (nI w) (nI (foH f p)) (nI (scN s' (foH f p))) t0 a7 g2) fun r => r.1 = mnI 999 a7 ∧ ThX f φ s' h r.2) → Ev (j_X7_numberBehind_53 (nI p) (nI w) (nI t) (nI (foH f p)) (nI (scN s' (foH f p))) t0 g1) fun r => r.1 = nI (nbN f φ s' p w t) ∧ ThX f φ s' h r.2 := by
    intro s1 t0 g1 so1 T1 e1 hj
    have n9 := so1.1 _ hh
    unfold j_X7_numberBehind_53 nbN
    rw [rd_18 hh, T1.2.n17 hh, ← e1]
    simp only [Option.bind_some]
    by_cases q : t ≤ 1
    · rw [if_pos (by rw [nl1]; exact nI_le q (by decide)), if_neg (by omega)]
      refine ev_mono (hj _ g1 T1) (fun r hr => ⟨?_, hr.2⟩)
      rw [hr.1, nl999, nI_min (by decide) (by omega), Nat.add_zero]
    · rw [if_neg (by rw [nl1, nI_leI (by omega) (by decide)]; exact q), if_pos (by omega)]
      refine ev_call (mostOf_x R so1 T1 hp) (fun r hr => ?_)
      have le9 : moN f φ s1 p (foW f) ≤ 9 := fmx_le (by decide) (fun n => hφ _ _ _ _ _ _) _
      rw [hr.1, nI_add]
      refine ev_mono (hj _ r.2 hr.2) (fun r' hr' => ⟨?_, hr'.2⟩)
      rw [hr'.1, nl999, nI_min (by decide) (by omega)]
  have j0 : movS f φ s' p w = s' → ∀ a7 g2, ThX f φ s' h g2 → Ev (j_X7_numberBehind_84 (nI w) (nI (foH f p)) (nI (scN s' (foH f p))) 0 a7 g2) fun r => r.1 = mnI 999 a7 ∧ ThX f φ s' h r.2 := by
    intro _ a7 g2 T2
    unfold j_X7_numberBehind_84
    rw [wr_18 hh]
    simp only [Option.bind_some]
    rw [if_pos trivial]
    refine ev_some ⟨rfl, T2.1.st (by decide), fun i hi => ?_, T2.2.2.1, T2.2.2.2.1, T2.2.2.2.2⟩
    show (stI g2 18 _ _).1 18 i = _
    rw [stI_at, if_pos rfl]
    by_cases e : i = foH f p
    · rw [if_pos e, e]
    · rw [if_neg e, T2.2.n17 hi]
  unfold f_X3_isWrong
  rw [if_neg (nI_pos (by omega)), F.2.1]
  by_cases zw : foW f ≤ w
  · rw [if_pos (nI_le zw (by omega))]
    simp only [Option.bind_some, if_true]
    have e : movS f φ s' p w = s' := if_neg (by omega)
    unfold j_X7_numberBehind_52
    exact fin s' 0 g so' T e.symm (j0 e)
  · have hw' : w < foW f := by omega
    rw [if_neg (by rw [nI_leI (by omega) (by omega)]; exact zw)]
    simp only [Option.bind_some]
    rw [if_neg (show ¬ (1 : Int32) = 0 by decide)]
    refine ev_call (RX.call R so' T hw' hh) (fun r hr => ?_)
    have c9 := calN_le (f := f) (s := s') (i := w) (hs := foH f p) hφ
    have em : movS f φ s' p w = cal f φ s' w (foH f p) := if_pos hw'
    rw [hr.1]
    by_cases z0 : calN f φ s' w (foH f p) = 0
    · rw [if_pos (by rw [z0]; rfl)]
      have ec : cal f φ s' w (foH f p) = s' := by unfold cal; rw [if_pos z0]
      have T2 := hr.2
      rw [ec] at T2 em
      unfold j_X7_numberBehind_52
      exact fin s' 0 r.2 so' T2 em.symm (j0 em)
    · rw [if_neg (by rw [nl0, nI_eq (by omega) (by decide)]; exact z0)]
      refine fin _ 1 r.2 (cal_ok so') hr.2 em.symm (fun a7 g2 T2 => ?_)
      have hf : scF s' w = false := by
        cases e : scF s' w with
        | false => rfl
        | true => exact absurd (by unfold calN; rw [if_pos e]) z0
      unfold j_X7_numberBehind_84
      rw [wr_18 hh]
      simp only [Option.bind_some]
      rw [if_neg (by decide)]
      obtain ⟨x, x1, x2, x3, x4, x5⟩ := unmove_x h12 T2.2 hf hw'
      rw [x1]
      exact ev_some ⟨rfl, x3 _ T2.1, x2⟩
/-- a thought over a heap whose found cells have moved -/
def ThP (f : Fo) (φ : Ph) (s' : Sc) (h g : Hp) : Prop := ∃ h0, Kp [49] h h0 ∧ ThX f φ s' h0 g ∧ h0.1 49 = g.1 49
theorem RX.p49 {f : Fo} {s : Sc} {φ : Ph} {h h0 : Hp} (R : RX f s φ h) (K : Kp [49] h h0) : RX f s φ h0 := by
  obtain ⟨q, hφ, ok, so, F, S, L, t⟩ := R
  exact ⟨K.1, hφ, ok, so, F.kp K (by decide), S.kp K (by decide) (by decide) (by decide), L.kp K (by decide), t.eq (K.i 17 (by decide))⟩
theorem ThP.st {f : Fo} {φ : Ph} {s' : Sc} {h g : Hp} (T : ThP f φ s' h g) (i : Nat) (v : Int32) : ThP f φ s' h (stI g 49 i v) := by
  obtain ⟨h0, K, T, e⟩ := T
  refine ⟨stI h0 49 i v, K.st (by decide), ⟨⟨T.1.1, fun c hc => ⟨?_, (T.1.2 c hc).2⟩⟩, T.2⟩, ?_⟩
  · by_cases z : c = 49
    · subst z
      funext j
      rw [stI_at, stI_at, if_pos rfl, if_pos rfl, e]
    · have h1 := (T.1.2 c hc).1
      funext j
      rw [stI_at, stI_at, if_neg z, if_neg z, h1]
  · funext j
    rw [stI_at, stI_at, if_pos rfl, if_pos rfl, e]
theorem numB_p {f : Fo} {s s' : Sc} {φ : Ph} {h g : Hp} (R : RX f s φ h) (so' : ScOk (foW f) s') (T : ThP f φ s' h g) {p w t : Nat} (hp : p < foP f) (hw : w ≤ 12) (ht : t ≤ 2) : Ev (f_X7_numberBehind (nI p) (nI w) (nI t) g) fun r => r.1 = nI (nbN f φ s' p w t) ∧ ThP f φ s' h r.2 ∧ r.2.1 49 = g.1 49 := by
  obtain ⟨h0, K, T, e⟩ := T
  refine ev_mono (numB_x (R.p49 K) so' T hp hw ht) (fun r hr => ?_)
  have e2 : r.2.1 49 = h0.1 49 := hr.2.1.i 49 (by decide)
  exact ⟨hr.1, ⟨h0, K, hr.2, e2.symm⟩, by rw [e2, e]⟩
theorem play_x {f : Fo} {s s' : Sc} {φ : Ph} {h g : Hp} (R : RX f s φ h) (so' : ScOk (foW f) s') (T : ThP f φ s' h g) {p t : Nat} (hp : p < foP f) (ht : t ≤ 2) : Ev (f_X7_playAlone (nI p) (nI t) g) fun r => r.1 49 0 = nI (bst f φ p t s') ∧ (1 ≤ t → r.1 49 1 = nI (whN f φ s' p (t - 1) (foW f)).2) ∧ ThP f φ s' h r := by
  have ok := R.2.2.1
  have h10 := ok.1
  have h12 := ok.2.1
  have hh := (ok.2.2.1 p hp).1
  unfold f_X7_playAlone
  rw [nl12]
  refine ev_call (numB_p R so' T hp (Nat.le_refl 12) ht) (fun r hr => ?_)
  obtain ⟨r1, r2, r3⟩ := hr
  rw [nl0, wr_49 (by decide)]
  simp only [Option.bind_some]
  rw [nl1, wr_49 (by decide)]
  simp only [Option.bind_some]
  have T1 := (r2.st 0 r.1).st 1 (nI 12)
  have em : movS f φ s' p 12 = s' := if_neg (by omega)
  by_cases z : t = 0
  · rw [z, if_neg (by decide)]
    refine ev_some ⟨?_, fun e => absurd e (by decide), T1⟩
    show (stI (stI r.2 49 0 r.1) 49 1 (nI 12)).1 49 0 = nI (scN s' (foH f p))
    rw [stI_at, if_pos rfl, if_neg (by decide), stI_at, if_pos rfl, if_pos rfl, r1, z]
    unfold nbN
    rw [em, if_neg (by decide)]
    have := so'.1 _ hh
    exact congrArg nI (by omega)
  · have t1 : 1 ≤ t := by omega
    rw [if_pos (nI_le t1 (by omega))]
    have hb : bst f φ p t s' = (whN f φ s' p (t - 1) (foW f)).1 := by
      rw [whN_1]
      conv => lhs; rw [show t = (t - 1) + 1 by omega]
      rw [bst]
    rw [hb]
    have hle : ∀ w, (whN f φ s' p (t - 1) w).1 ≤ 999 := fun w => by rw [whN_1]; exact fmx_le (bst_le hh _ _ so') (fun n => bst_le hh _ _ (cal_ok so')) _
    refine ev_call (P := fun u : Int32 × Hp => u.2.1 49 0 = nI (whN f φ s' p (t - 1) (foW f)).1 ∧ u.2.1 49 1 = nI (whN f φ s' p (t - 1) (foW f)).2 ∧ ThP f φ s' h u.2) (ev_for (k := 0) (fun w (u : Int32 × Hp) => u.1 = nI w ∧ u.2.1 49 0 = nI (whN f φ s' p (t - 1) w).1 ∧ u.2.1 49 1 = nI (whN f φ s' p (t - 1) w).2 ∧ ThP f φ s' h u.2) (foW f) (fun w u hw hu => ?_) ⟨rfl, ?_, rfl, T1⟩ (Nat.zero_le _) (by rw [FUe]; omega)) (fun u hu => ev_some ⟨hu.1, fun _ => hu.2.1, hu.2.2⟩)
    · obtain ⟨y, g⟩ := u
      obtain ⟨p1, p2, p3, p4⟩ := hu
      simp only at p1 p2 p3 p4
      subst p1
      have F : FoX f g := by
        obtain ⟨h0, K, T, e⟩ := p4
        exact (R.p49 K).2.2.2.2.1.kp T.1 (by decide)
      unfold b_X7_playAlone_30
      rw [F.2.1]
      by_cases zw : foW f ≤ w
      · have e : w = foW f := by omega
        rw [if_pos (nI_le zw (by omega))]
        exact ev_some ⟨by rw [← e]; exact p2, by rw [← e]; exact p3, p4⟩
      · have hw' : w < foW f := by omega
        have a2' := ok.2.2.2 w hw'
        rw [if_neg (by rw [nI_leI (by omega) (by omega)]; exact zw)]
        simp only
        rw [rd_5 (by omega), (F.2.2.2 w hw').2.1]
        simp only [Option.bind_some]
        by_cases q1 : foT f w = p
        · rw [if_pos (by rw [q1])]
          refine ev_call (numB_p R so' p4 hp (show w ≤ 12 by omega) ht) (fun v hv => ?_)
          obtain ⟨v1, v2, v3⟩ := hv
          have hnb : nbN f φ s' p w t = bst f φ p (t - 1) (cal f φ s' w (foH f p)) := by
            rw [nb_bst hh so' t1 ht]; unfold movS; rw [if_pos hw']
          have l1 := hle w
          have l2 := bst_le (φ := φ) hh (t - 1) _ (cal_ok (f := f) (φ := φ) (i := w) (hs := foH f p) so')
          rw [nl0, rd_49 (by decide), v3, p2, v1, hnb]
          simp only [Option.bind_some]
          by_cases c : bst f φ p (t - 1) (cal f φ s' w (foH f p)) ≤ (whN f φ s' p (t - 1) w).1
          · rw [if_pos (nI_le c (by omega))]
            have hs : whN f φ s' p (t - 1) (w + 1) = whN f φ s' p (t - 1) w := by
              rw [whN, if_neg]
              simp only [Bool.and_eq_true, decide_eq_true_eq]
              omega
            exact ev_some ⟨hw', by rw [nl1, nI_add], by rw [hs, v3]; exact p2, by rw [hs, v3]; exact p3, v2⟩
          · rw [if_neg (by rw [nI_leI (by omega) (by omega)]; exact c), wr_49 (by decide)]
            simp only [Option.bind_some]
            rw [nl1, wr_49 (by decide)]
            simp only [Option.bind_some]
            have hmay : mayB f s' p w = true := by
              unfold mayB
              cases e : scF s' w with
              | false => simp [q1]
              | true => exact absurd (by omega) (whN_forg (f := f) (φ := φ) (p := p) (k := t - 1) (v := w) e)
            have hs : whN f φ s' p (t - 1) (w + 1) = (bst f φ p (t - 1) (cal f φ s' w (foH f p)), w) := by
              rw [whN_yes hmay, if_pos (by omega)]
            refine ev_some ⟨hw', by rw [nI_add], ?_, ?_, (v2.st 0 _).st 1 _⟩
            · rw [hs]
              show (stI (stI v.2 49 0 _) 49 1 _).1 49 0 = _
              rw [stI_at, if_pos rfl, if_neg (by decide), stI_at, if_pos rfl, if_pos rfl]
            · rw [hs]
              show (stI (stI v.2 49 0 _) 49 1 _).1 49 1 = _
              rw [stI_at, if_pos rfl, if_pos rfl]
        · rw [if_neg (by rw [nI_eq (by omega) (by omega)]; exact q1)]
          have hs : whN f φ s' p (t - 1) (w + 1) = whN f φ s' p (t - 1) w := whN_no (by unfold mayB; simp [q1])
          exact ev_some ⟨hw', by rw [nl1, nI_add], by rw [hs]; exact p2, by rw [hs]; exact p3, p4⟩
    · show (stI (stI r.2 49 0 r.1) 49 1 (nI 12)).1 49 0 = nI (bst f φ p (t - 1) s')
      rw [stI_at, if_pos rfl, if_neg (by decide), stI_at, if_pos rfl, if_pos rfl, r1, nb_bst hh so' t1 ht, em]
