/-! by turns: the pure game -/
def fmx (c : Nat → Bool) (v : Nat → Nat) (x0 : Nat) : Nat → Nat
  | 0 => x0
  | n + 1 => if c n then max (fmx c v x0 n) (v n) else fmx c v x0 n
def mayB (f : Fo) (s : Sc) (p : Nat) : Nat → Bool := fun w => decide (foT f w = p) && !scF s w
def bst (f : Fo) (φ : Ph) (p : Nat) : Nat → Sc → Nat
  | 0, s => scN s (foH f p)
  | k + 1, s => fmx (mayB f s p) (fun w => bst f φ p k (cal f φ s w (foH f p))) (bst f φ p k s) (foW f)
theorem fmx_le {c : Nat → Bool} {v : Nat → Nat} {x0 M : Nat} (h0 : x0 ≤ M) (hv : ∀ n, v n ≤ M) : ∀ n, fmx c v x0 n ≤ M
  | 0 => h0
  | n + 1 => by
    have h1 := fmx_le (c := c) h0 hv n
    have h2 := hv n
    rw [fmx]
    split
    · omega
    · exact h1
theorem fmx_ge {c : Nat → Bool} {v : Nat → Nat} {x0 : Nat} : ∀ n, x0 ≤ fmx c v x0 n
  | 0 => Nat.le_refl _
  | n + 1 => by
    have h1 := fmx_ge (c := c) (v := v) (x0 := x0) n
    rw [fmx]
    split
    · omega
    · exact h1
theorem fmx_congr {c c' : Nat → Bool} {v v' : Nat → Nat} {x0 x0' : Nat} (h0 : x0 = x0') : ∀ n, (∀ w, w < n → c w = c' w ∧ (c w = true → v w = v' w)) → fmx c v x0 n = fmx c' v' x0' n
  | 0, _ => h0
  | n + 1, h => by
    have h1 := fmx_congr h0 n (fun w hw => h w (by omega))
    obtain ⟨h2, h3⟩ := h n (by omega)
    rw [fmx, fmx, h1, ← h2]
    cases e : c n with
    | true => rw [if_pos rfl, if_pos rfl, h3 e]
    | false => rw [if_neg (by decide), if_neg (by decide)]
theorem bst_le {f : Fo} {φ : Ph} {p : Nat} (hp : foH f p < 12) {w : Nat} : ∀ k s, ScOk w s → bst f φ p k s ≤ 999
  | 0, s, so => so.1 _ hp
  | k + 1, s, so => by
    rw [bst]
    exact fmx_le (bst_le hp k s so) (fun n => bst_le hp k _ (cal_ok so)) _
def SmF (f : Fo) (q : Nat) (s s' : Sc) : Prop := scN s (foH f q) = scN s' (foH f q) ∧ scD s = scD s' ∧ scT s = scT s' ∧ ∀ w, w < foW f → foT f w = q → scF s w = scF s' w
theorem smF_cal {f : Fo} {φ : Ph} {q : Nat} {s s' : Sc} (S : SmF f q s s') {w : Nat} (hw : w < foW f) (ht : foT f w = q) : SmF f q (cal f φ s w (foH f q)) (cal f φ s' w (foH f q)) := by
  obtain ⟨h1, h2, h3, h4⟩ := S
  have hc : cnt f φ s w (foH f q) = cnt f φ s' w (foH f q) := by unfold cnt; rw [h1, h2, h3]
  have hn : calN f φ s w (foH f q) = calN f φ s' w (foH f q) := by unfold calN; rw [h4 w hw ht, hc]
  unfold cal
  rw [← hn, ← hc]
  split
  · exact ⟨h1, h2, h3, h4⟩
  · refine ⟨?_, h2, h3, fun v hv hq => ?_⟩
    · show upN _ _ _ _ = upN _ _ _ _
      rw [upN_at, upN_at, if_pos rfl, if_pos rfl, h1]
    · show upN _ _ _ _ = upN _ _ _ _
      rw [upN_at, upN_at]
      split
      · rfl
      · exact h4 v hv hq
theorem bst_same {f : Fo} {φ : Ph} {q : Nat} : ∀ k s s', SmF f q s s' → bst f φ q k s = bst f φ q k s'
  | 0, s, s', S => S.1
  | k + 1, s, s', S => by
    rw [bst, bst]
    refine fmx_congr (bst_same k s s' S) _ (fun w hw => ⟨?_, fun e => ?_⟩)
    · unfold mayB
      by_cases q1 : foT f w = q
      · rw [S.2.2.2 w hw q1]
      · simp [q1]
    · unfold mayB at e
      simp at e
      exact bst_same k _ _ (smF_cal S hw e.1)
theorem smF_other {f : Fo} {φ : Ph} {p q w : Nat} {s : Sc} (hpq : p ≠ q) (hh : foH f p ≠ foH f q) (ht : foT f w = p) : SmF f q (cal f φ s w (foH f p)) s := by
  unfold cal
  split
  · exact ⟨rfl, rfl, rfl, fun _ _ _ => rfl⟩
  · refine ⟨?_, rfl, rfl, fun v hv hq => ?_⟩
    · show upN _ _ _ _ = _
      rw [upN_at, if_neg (fun e => hh e.symm)]
    · show upN _ _ _ _ = _
      rw [upN_at, if_neg]
      intro e
      rw [e, ht] at hq
      exact hpq hq
def cE : Nat → Nat → Nat
  | _, 0 => 0
  | i, r + 1 => (if i % 2 = 0 then 1 else 0) + cE (i + 1) r
def cO : Nat → Nat → Nat
  | _, 0 => 0
  | i, r + 1 => (if i % 2 = 0 then 0 else 1) + cO (i + 1) r
def tv (f : Fo) (φ : Ph) (p q i r : Nat) (s : Sc) : Int32 := if foH f p = foH f q then 0 else nI (bst f φ p (cE i r) s) - nI (bst f φ q (cO i r) s)
theorem dif_toInt {a b : Nat} (ha : a ≤ 999) (hb : b ≤ 999) : (nI a - nI b).toInt = (a : Int) - b := by
  rw [Int32.toInt_sub, nI_toInt (by omega), nI_toInt (by omega)]
  rw [Int.bmod_eq_of_le] <;> omega
theorem dif_lt {a b c d : Nat} (ha : a ≤ 999) (hb : b ≤ 999) (hc : c ≤ 999) (hd : d ≤ 999) : nI a - nI b < nI c - nI d ↔ (a : Int) - b < c - d := by
  rw [Int32.lt_iff_toInt_lt, dif_toInt ha hb, dif_toInt hc hd]
theorem dif_mx {a b c : Nat} (ha : a ≤ 999) (hb : b ≤ 999) (hc : c ≤ 999) : mxI (nI a - nI b) (nI c - nI b) = nI (max a c) - nI b := by
  unfold mxI
  by_cases q : a < c
  · rw [if_pos ((dif_lt ha hb hc hb).mpr (by omega)), Nat.max_eq_right (by omega)]
  · rw [if_neg (fun x => by have := (dif_lt ha hb hc hb).mp x; omega), Nat.max_eq_left (by omega)]
theorem dif_mn {a b c : Nat} (ha : a ≤ 999) (hb : b ≤ 999) (hc : c ≤ 999) : mnI (nI b - nI a) (nI b - nI c) = nI b - nI (max a c) := by
  unfold mnI
  by_cases q : a < c
  · rw [if_pos ((dif_lt hb hc hb ha).mpr (by omega)), Nat.max_eq_right (by omega)]
  · rw [if_neg (fun x => by have := (dif_lt hb hc hb ha).mp x; omega), Nat.max_eq_left (by omega)]
/-! the reference's game -/
theorem RM.to {f : Fo} {s s' : Sc} {φ : Ph} {h g : Hp} (R : RM f s φ h) (K : Kp [54, 61, 71, 72] h g) (so : ScOk (foW f) s') (S : ScM (foW f) s' g) : RM f s' φ g :=
  ⟨K.1, R.2.1, R.2.2.1, so, R.2.2.2.2.1.kp K (by rw [K.i 53 (by decide)]) (by rw [K.i 53 (by decide)]) (by decide), S, R.2.2.2.2.2.2.kp K (by rw [K.i 53 (by decide)]) (by rw [K.i 53 (by decide)]) (by decide)⟩
theorem unmove_m {f : Fo} {φ : Ph} {s : Sc} {W w hs : Nat} {g : Hp} (S : ScM W (cal f φ s w hs) g) (hf : scF s w = false) (hw : w < W) : ScM W s (stI (stI g 61 w 0) 54 hs (nI (scN s hs))) := by
  have hN : ∀ i, i ≠ hs → scN (cal f φ s w hs) i = scN s i := fun i hi => by
    unfold cal; split
    · rfl
    · exact if_neg hi
  have hF : ∀ i, i ≠ w → scF (cal f φ s w hs) i = scF s i := fun i hi => by
    unfold cal; split
    · rfl
    · exact if_neg hi
  have hD : scD (cal f φ s w hs) = scD s := by unfold cal; split <;> rfl
  have hT : scT (cal f φ s w hs) = scT s := by unfold cal; split <;> rfl
  refine ⟨fun i hi => ?_, fun i hi => ?_, fun i hi => ?_, ?_⟩
  · rw [stI_at, if_pos rfl]
    by_cases e : i = hs
    · rw [if_pos e, e]
    · rw [if_neg e, stI_at, if_neg (by decide), S.1 i hi, hN i e]
  · rw [stI_at, if_neg (by decide), stI_at, if_neg (by decide), S.2.1 i hi, hD]
  · rw [stI_at, if_neg (by decide), stI_at, if_pos rfl]
    by_cases e : i = w
    · rw [if_pos e, e, hf]; rfl
    · rw [if_neg e, S.2.2.1 i hi, hF i e]
  · show g.1 53 10 = _
    rw [S.2.2.2, hT]
theorem turn_loop {f : Fo} {s : Sc} {φ : Ph} {h : Hp} (R : RM f s φ h) {Rf : Nat → List Int32 → Hp → Option (Int32 × Hp)} {a1 a2 ab : Int32} {x : Nat} (hx : x < foP f) {val : Sc → Int32} (hR : ∀ s' g, RM f s' φ g → Ev (Rf 0 [a1 + 1, a2, ab] g) fun t => t.1 = val s' ∧ RM f s' φ t.2 ∧ Kp [54, 61, 71, 72] g t.2) {X : Nat → Int32} (hyes : ∀ w, w < foW f → mayB f s x w = true → (if a1 % 2 = 0 then mxI (X w) (val (cal f φ s w (foH f x))) else mnI (X w) (val (cal f φ s w (foH f x)))) = X (w + 1)) (hno : ∀ w, w < foW f → mayB f s x w = false → X (w + 1) = X w) : Ev (j_X8_turnFrom_63 Rf a1 a2 ab (X 0) (nI x) h) fun t => t.1 = X (foW f) ∧ RM f s φ t.2 ∧ Kp [54, 61, 71, 72] h t.2 := by
  have ok := R.2.2.1
  have h10 := ok.1
  have h12 := ok.2.1
  unfold j_X8_turnFrom_63
  refine ev_call (P := fun u : Int32 × Int32 × Hp => u.1 = X (foW f) ∧ RM f s φ u.2.2 ∧ Kp [54, 61, 71, 72] h u.2.2) (ev_for (k := 0) (fun w (u : Int32 × Int32 × Hp) => u.1 = X w ∧ u.2.1 = nI w ∧ RM f s φ u.2.2 ∧ Kp [54, 61, 71, 72] h u.2.2) (foW f) (fun w u hw hu => ?_) ⟨rfl, rfl, R, Kp.refl R.1⟩ (Nat.zero_le _) (by rw [FUe]; omega)) (fun u hu => ev_some hu)
  obtain ⟨y, y2, g⟩ := u
  obtain ⟨p1, p2, p3, p4⟩ := hu
  simp only at p1 p2 p3 p4
  subst p2
  have F := p3.2.2.2.2.1
  have S := p3.2.2.2.2.2.1
  unfold b_X8_turnFrom_68
  rw [F.2.1]
  by_cases z : foW f ≤ w
  · have e : w = foW f := by omega
    rw [if_pos (nI_le z (by omega))]
    exact ev_some ⟨by rw [← e]; exact p1, p3, p4⟩
  · have hw' : w < foW f := by omega
    have a2' := ok.2.2.2 w hw'
    rw [if_neg (by rw [nI_leI (by omega) (by omega)]; exact z)]
    simp only
    rw [rd_58 (by omega), (F.2.2.2 w hw').2.1]
    simp only [Option.bind_some]
    by_cases q1 : foT f w = x
    · rw [if_pos (by rw [q1]), rd_61 (by omega), S.2.2.1 w hw']
      simp only [Option.bind_some]
      cases e : scF s w with
      | true =>
        rw [if_pos (show nI (bI true) = 1 from rfl)]
        exact ev_some ⟨hw', by rw [hno w hw' (by unfold mayB; simp [e])]; exact p1, by rw [nl1, nI_add], p3, p4⟩
      | false =>
        rw [if_neg (by decide)]
        have hmay : mayB f s x w = true := by unfold mayB; simp [e, q1]
        have hy := hyes w hw' hmay
        have hh := (ok.2.2.1 x hx).1
        have hfx : nI (foH f x) = nI (foH f x) := rfl
        rw [rd_55 (by omega), (F.2.2.1 x hx).1]
        simp only [Option.bind_some]
        rw [rd_54 hh, S.1 _ hh]
        simp only [Option.bind_some]
        refine ev_call (calls_m p3.1 p3.2.1 p3.2.2.1 p3.2.2.2.1 F S p3.2.2.2.2.2.2 hw' hh) (fun r hr => ?_)
        obtain ⟨r1, r2, r3⟩ := hr
        refine ev_call (hR _ r.2 (p3.to r3 (cal_ok p3.2.2.2.1) r2)) (fun t ht => ?_)
        obtain ⟨t1, t2, t3⟩ := ht
        rw [wr_61 (by omega)]
        simp only [Option.bind_some]
        rw [rd_55 (by omega), show (stI t.2 61 w 0).1 55 x = nI (foH f x) from (t2.2.2.2.2.1.2.2.1 x hx).1]
        simp only [Option.bind_some]
        rw [wr_54 hh]
        simp only [Option.bind_some]
        have K : Kp [54, 61, 71, 72] g (stI (stI t.2 61 w 0) 54 (foH f x) (nI (scN s (foH f x)))) := ((r3.trans t3).st (by decide)).st (by decide)
        have RR := p3.to K p3.2.2.2.1 (unmove_m t2.2.2.2.2.2.1 e hw')
        rw [p1, t1]
        refine ev_if (fun c => ?_) (fun c => ?_)
        · rw [if_pos c] at hy
          exact ev_some ⟨hw', hy, by rw [nl1, nI_add], RR, p4.trans K⟩
        · rw [if_neg c] at hy
          exact ev_some ⟨hw', hy, by rw [nl1, nI_add], RR, p4.trans K⟩
    · rw [if_neg (by rw [nI_eq (by omega) (by omega)]; exact q1)]
      exact ev_some ⟨hw', by rw [hno w hw' (by unfold mayB; simp [q1])]; exact p1, by rw [nl1, nI_add], p3, p4⟩
theorem turn_m {f : Fo} {φ : Ph} {p q : Nat} {ab : Int32} (hp : p < foP f) (hq : q < foP f) (hpq : p ≠ q) (ea : ab / 10 = nI p) (eb : ab % 10 = nI q) : ∀ (r i F : Nat) (s : Sc) (h : Hp), i + r ≤ 4 → r < F → RM f s φ h → Ev (fG_GT F 0 [nI i, nI (i + r), ab] h) fun t => t.1 = tv f φ p q i r s ∧ RM f s φ t.2 ∧ Kp [54, 61, 71, 72] h t.2 := by
  intro r
  induction r with
  | zero =>
    intro i F s h hi hF R
    obtain ⟨F', rfl⟩ : ∃ F', F = F' + 1 := ⟨F - 1, by omega⟩
    have ok := R.2.2.1
    have h10 := ok.1
    have Fm := R.2.2.2.2.1
    have S := R.2.2.2.2.2.1
    have hph := (ok.2.2.1 p hp).1
    have hqh := (ok.2.2.1 q hq).1
    show Ev (m_X8_turnFrom (fG_GT F') (nI i) (nI (i + 0)) ab h) _
    unfold m_X8_turnFrom
    rw [if_pos (show nI i = nI (i + 0) from rfl), ea, eb, rd_55 (by omega), rd_55 (by omega), (Fm.2.2.1 p hp).1, (Fm.2.2.1 q hq).1]
    simp only [Option.bind_some]
    rw [rd_54 hph, rd_54 hqh, S.1 _ hph, S.1 _ hqh]
    refine ev_some ⟨?_, R, Kp.refl R.1⟩
    unfold tv
    by_cases z : foH f p = foH f q
    · rw [if_pos z]
      show nI (scN s (foH f p)) - nI (scN s (foH f q)) = 0
      rw [z, Int32.sub_self]
    · rw [if_neg z]; rfl
  | succ r ih =>
    intro i F s h hi hF R
    obtain ⟨F', rfl⟩ : ∃ F', F = F' + 1 := ⟨F - 1, by omega⟩
    have ok := R.2.2.1
    have hph := (ok.2.2.1 p hp).1
    have hqh := (ok.2.2.1 q hq).1
    show Ev (m_X8_turnFrom (fG_GT F') (nI i) (nI (i + (r + 1))) ab h) _
    unfold m_X8_turnFrom
    rw [if_neg (by rw [nI_eq (by omega) (by omega)]; omega)]
    have hR : ∀ s' g, RM f s' φ g → Ev (fG_GT F' 0 [nI i + 1, nI (i + (r + 1)), ab] g) fun t => t.1 = tv f φ p q (i + 1) r s' ∧ RM f s' φ t.2 ∧ Kp [54, 61, 71, 72] g t.2 := by
      intro s' g Rg
      rw [nl1, nI_add, show i + (r + 1) = i + 1 + r by omega]
      exact ih (i + 1) F' s' g (by omega) (by omega) Rg
    refine ev_call (hR s h R) (fun t ht => ?_)
    obtain ⟨t1, t2, t3⟩ := ht
    have le : ∀ x k s', x = p ∨ x = q → ScOk (foW f) s' → bst f φ x k s' ≤ 999 := by
      intro x k s' hx so'
      rcases hx with rfl | rfl
      · exact bst_le hph k s' so'
      · exact bst_le hqh k s' so'
    have so := R.2.2.2.1
    by_cases e2 : i % 2 = 0
    · have hif : nI i % 2 = 0 := by rw [nl2, nI_mod (by omega) (by decide), e2]; rfl
      rw [if_pos hif, ea, t1]
      by_cases z : foH f p = foH f q
      · have hv : ∀ i r s', tv f φ p q i r s' = 0 := fun i r s' => by unfold tv; rw [if_pos z]
        refine ev_mono (turn_loop t2 hp hR (X := fun _ => tv f φ p q (i + 1) r s) (fun w hw hm => ?_) (fun w hw hm => rfl)) (fun u hu => ⟨?_, hu.2.1, t3.trans hu.2.2⟩)
        · rw [if_pos hif, hv, hv]; rfl
        · rw [hu.1, hv, hv]
      · have hE : cE i (r + 1) = cE (i + 1) r + 1 := by rw [cE, if_pos e2]; omega
        have hO : cO i (r + 1) = cO (i + 1) r := by rw [cO, if_pos e2]; omega
        rw [show tv f φ p q (i + 1) r s = nI (bst f φ p (cE (i + 1) r) s) - nI (bst f φ q (cO (i + 1) r) s) from if_neg z]
        refine ev_mono (turn_loop t2 hp hR (X := fun w => nI (fmx (mayB f s p) (fun w => bst f φ p (cE (i + 1) r) (cal f φ s w (foH f p))) (bst f φ p (cE (i + 1) r) s) w) - nI (bst f φ q (cO (i + 1) r) s)) (fun w hw hm => ?_) (fun w hw hm => ?_)) (fun u hu => ⟨?_, hu.2.1, t3.trans hu.2.2⟩)
        · rw [if_pos hif]
          have hT : foT f w = p := by unfold mayB at hm; simp at hm; exact hm.1
          rw [show tv f φ p q (i + 1) r (cal f φ s w (foH f p)) = nI (bst f φ p (cE (i + 1) r) (cal f φ s w (foH f p))) - nI (bst f φ q (cO (i + 1) r) (cal f φ s w (foH f p))) from if_neg z, bst_same _ _ _ (smF_other hpq z hT), dif_mx (fmx_le (le p _ s (Or.inl rfl) so) (fun n => le p _ _ (Or.inl rfl) (cal_ok so)) _) (le q _ s (Or.inr rfl) so) (le p _ _ (Or.inl rfl) (cal_ok so)), fmx, if_pos hm]
        · rw [fmx, if_neg (by rw [hm]; decide)]
        · rw [hu.1]
          unfold tv
          rw [if_neg z, hE, hO, bst]
    · have hif : ¬ nI i % 2 = 0 := by rw [nl2, nI_mod (by omega) (by decide), nl0, nI_eq (by omega) (by decide)]; exact e2
      rw [if_neg hif, eb, t1]
      by_cases z : foH f p = foH f q
      · have hv : ∀ i r s', tv f φ p q i r s' = 0 := fun i r s' => by unfold tv; rw [if_pos z]
        refine ev_mono (turn_loop t2 hq hR (X := fun _ => tv f φ p q (i + 1) r s) (fun w hw hm => ?_) (fun w hw hm => rfl)) (fun u hu => ⟨?_, hu.2.1, t3.trans hu.2.2⟩)
        · rw [if_neg hif, hv, hv]; rfl
        · rw [hu.1, hv, hv]
      · have hE : cE i (r + 1) = cE (i + 1) r := by rw [cE, if_neg e2]; omega
        have hO : cO i (r + 1) = cO (i + 1) r + 1 := by rw [cO, if_neg e2]; omega
        rw [show tv f φ p q (i + 1) r s = nI (bst f φ p (cE (i + 1) r) s) - nI (bst f φ q (cO (i + 1) r) s) from if_neg z]
        refine ev_mono (turn_loop t2 hq hR (X := fun w => nI (bst f φ p (cE (i + 1) r) s) - nI (fmx (mayB f s q) (fun w => bst f φ q (cO (i + 1) r) (cal f φ s w (foH f q))) (bst f φ q (cO (i + 1) r) s) w)) (fun w hw hm => ?_) (fun w hw hm => ?_)) (fun u hu => ⟨?_, hu.2.1, t3.trans hu.2.2⟩)
        · rw [if_neg hif]
          have hT : foT f w = q := by unfold mayB at hm; simp at hm; exact hm.1
          rw [show tv f φ p q (i + 1) r (cal f φ s w (foH f q)) = nI (bst f φ p (cE (i + 1) r) (cal f φ s w (foH f q))) - nI (bst f φ q (cO (i + 1) r) (cal f φ s w (foH f q))) from if_neg z, bst_same (q := p) _ _ _ (smF_other (Ne.symm hpq) (fun e => z e.symm) hT), dif_mn (fmx_le (le q _ s (Or.inr rfl) so) (fun n => le q _ _ (Or.inr rfl) (cal_ok so)) _) (le p _ s (Or.inl rfl) so) (le q _ _ (Or.inr rfl) (cal_ok so)), fmx, if_pos hm]
        · rw [fmx, if_neg (by rw [hm]; decide)]
        · rw [hu.1]
          unfold tv
          rw [if_neg z, hE, hO, bst]
