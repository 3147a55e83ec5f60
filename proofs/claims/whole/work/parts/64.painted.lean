/-! thoughts, from one side's cells alone -/
def RX (f : Fo) (s : Sc) (φ : Ph) (h : Hp) : Prop := LR h ∧ PhOk φ ∧ FoOk f ∧ ScOk (foW f) s ∧ FoX f h ∧ ScX (foW f) s 13 h ∧ LawX φ h ∧ Thk 17 h
def RM (f : Fo) (s : Sc) (φ : Ph) (h : Hp) : Prop := LR h ∧ PhOk φ ∧ FoOk f ∧ ScOk (foW f) s ∧ FoM f h ∧ ScM (foW f) s h ∧ LawM φ h
theorem RelA.rx {f : Fo} {s : Sc} {φ : Ph} {b : Nat} {h : Hp} (R : RelA f s φ b h) : RX f s φ h := ⟨R.1.1, R.1.2.1, R.1.2.2.1, R.1.2.2.2, R.2.1.1, R.2.1.2.2.1, R.2.2.1.1, R.thk⟩
theorem RelA.rm {f : Fo} {s : Sc} {φ : Ph} {b : Nat} {h : Hp} (R : RelA f s φ b h) : RM f s φ h := ⟨R.1.1, R.1.2.1, R.1.2.2.1, R.1.2.2.2, R.2.1.2.1, R.2.1.2.2.2, R.2.2.1.2⟩
theorem RX.start {f : Fo} {s : Sc} {φ : Ph} {h : Hp} (R : RX f s φ h) : ∃ g, f_X5_become 17 13 h = some g ∧ ThX f φ s h g := by
  obtain ⟨q, hφ, ok, so, F, S, L, t⟩ := R
  obtain ⟨g, h1, h2, h3, h4⟩ := become_x (Or.inr rfl) q ok.2.1 S t
  exact ⟨g, h1, h4.mono (by decide), h2⟩
theorem RX.call {f : Fo} {s s' : Sc} {φ : Ph} {h g : Hp} (R : RX f s φ h) (so' : ScOk (foW f) s') (T : ThX f φ s' h g) {i hs : Nat} (hi : i < foW f) (hh : hs < 12) : Ev (f_X7_forgive 17 (nI i) (nI hs) g) fun r => r.1 = nI (calN f φ s' i hs) ∧ ThX f φ (cal f φ s' i hs) h r.2 := by
  obtain ⟨q, hφ, ok, so, F, S, L, t⟩ := R
  exact ev_mono (forgive_x ok17 T.1.1 hφ ok so' (F.kp T.1 (by decide)) T.2 (L.kp T.1 (by decide)) hi hh) (fun r hr => ⟨hr.1, T.1.trans (hr.2.2.mono (by decide)), hr.2.1⟩)
theorem RX.callOf {f : Fo} {s s' : Sc} {φ : Ph} {h g : Hp} (R : RX f s φ h) (so' : ScOk (foW f) s') (T : ThX f φ s' h g) {k j : Nat} (hk : k < 6) (hj : j < 60) {x : Int32} (hx : (h.2.1 (32 + k) j).toInt32 = x) (hg : goodT (foW f) x = true) : Ev (f_X7_callOf (nI k) (nI j) g) fun r => r.1 = nI (calN f φ s' (tcI x) (tcH x)) ∧ ThX f φ (cal f φ s' (tcI x) (tcH x)) h r.2 := by
  obtain ⟨t1, t2, t3, t4⟩ := goodT_tc R.2.2.1.2.1 hg
  unfold f_X7_callOf
  rw [val_n hk hj]
  simp only [Option.bind_some]
  rw [T.1.l (32 + k) (by simp; omega), hx, t3, t4]
  exact ev_call (RX.call R so' T t1 t2) (fun r hr => ev_some hr)
theorem RM.start {f : Fo} {s : Sc} {φ : Ph} {h : Hp} (R : RM f s φ h) {c : Nat} (hc : c = 82 ∨ c = 83) : Ev (f_X8_keeps c h) fun g => ThM f φ s s c h g := by
  refine ev_mono (keeps_m (okc_out hc).1 R.1) (fun g hg => ?_)
  have K := hg.2
  have n : ∀ a, a ≠ c → g.1 a = h.1 a := fun a ha => K.i a (by simp [ha])
  have hn := (okc_out hc).2
  refine ⟨K.mono (by simp), fun j _ => by rw [n 53 (hn 53 (by decide))], ?_, g, hg.1, rfl⟩
  exact R.2.2.2.2.2.1.eq (n 54 (hn _ (by decide))) (n 60 (hn _ (by decide))) (n 61 (hn _ (by decide))) (by rw [n 53 (hn _ (by decide))])
theorem RM.fo {f : Fo} {s s' : Sc} {φ : Ph} {h g : Hp} (R : RM f s φ h) {c : Nat} (hc : c = 82 ∨ c = 83) (T : ThM f φ s s' c h g) : FoM f g ∧ LawM φ g := by
  obtain ⟨K, e, _⟩ := T
  have n : ∀ a, [53, 54, 60, 61, 71, 72, c].contains a = false → g.1 a = h.1 a := fun a ha => K.i a ha
  have m : ∀ a, a = 55 ∨ a = 56 ∨ a = 57 ∨ a = 58 ∨ a = 59 ∨ a = 63 ∨ a = 64 ∨ a = 65 ∨ a = 66 → g.1 a = h.1 a := fun a ha => n a (by simp; omega)
  exact ⟨R.2.2.2.2.1.eq (e 1 (by decide)) (e 4 (by decide)) (m 55 (by decide)) (m 56 (by decide)) (m 57 (by decide)) (m 58 (by decide)) (m 59 (by decide)), R.2.2.2.2.2.2.eq (e 13 (by decide)) (e 14 (by decide)) (m 63 (by decide)) (m 64 (by decide)) (m 65 (by decide)) (m 66 (by decide))⟩
theorem RM.call {f : Fo} {s s' : Sc} {φ : Ph} {h g : Hp} (R : RM f s φ h) (so : ScOk (foW f) s') {c : Nat} (hc : c = 82 ∨ c = 83) (T : ThM f φ s s' c h g) {i hs : Nat} (hi : i < foW f) (hh : hs < 12) : Ev (f_X8_calls (nI i) (nI hs) g) fun r => r.1 = nI (calN f φ s' i hs) ∧ ThM f φ s (cal f φ s' i hs) c h r.2 := by
  obtain ⟨F, L⟩ := RM.fo R hc T
  obtain ⟨K, e, S, k, k1, k2⟩ := T
  refine ev_mono (calls_m K.1 R.2.1 R.2.2.1 so F S L hi hh) (fun r hr => ⟨hr.1, K.trans (hr.2.2.mono (by simp)), fun j hj => ?_, hr.2.1, k, k1, ?_⟩)
  · rw [hr.2.2.i 53 (by decide), e j hj]
  · rw [hr.2.2.i c (by simp; omega), k2]
theorem RM.stop {f : Fo} {s s' : Sc} {φ : Ph} {h g : Hp} (R : RM f s φ h) {c : Nat} (hc : c = 82 ∨ c = 83) (T : ThM f φ s s' c h g) : Ev (f_X8_laysBack c g) fun k => RM f s φ k ∧ Kp [53, 54, 60, 61, 71, 72, c] h k ∧ (∀ j, k.1 53 j = h.1 53 j) ∧ k.1 c = g.1 c := by
  obtain ⟨F, L⟩ := RM.fo R hc T
  obtain ⟨K, e, S, k, k1, k2⟩ := T
  have hn := (okc_out hc).2
  refine ev_mono (lays_m (okc_out hc).1 K.1) (fun g' hg' => ?_)
  have KK : Kp [53, 54, 60, 61, 71, 72, c] h g' := K.trans (hg'.2.mono (by simp))
  have S' := laid R.2.2.1.2.1 R.2.2.2.2.2.1 k1 k2 hg'.1
  have e53 : ∀ j, g'.1 53 j = h.1 53 j := by
    intro j
    by_cases q : j = 10
    · subst q; rw [S'.2.2.2, R.2.2.2.2.2.1.2.2.2]
    · rw [hg'.1.2.2 j q, e j q]
  have m : ∀ a, a = 55 ∨ a = 56 ∨ a = 57 ∨ a = 58 ∨ a = 59 ∨ a = 63 ∨ a = 64 ∨ a = 65 ∨ a = 66 → g'.1 a = h.1 a := fun a ha => KK.i a (by simp; omega)
  refine ⟨⟨KK.1, R.2.1, R.2.2.1, R.2.2.2.1, R.2.2.2.2.1.eq (e53 1) (e53 4) (m 55 (by decide)) (m 56 (by decide)) (m 57 (by decide)) (m 58 (by decide)) (m 59 (by decide)), S', R.2.2.2.2.2.2.eq (e53 13) (e53 14) (m 63 (by decide)) (m 64 (by decide)) (m 65 (by decide)) (m 66 (by decide))⟩, KK, e53, hg'.2.i c ?_⟩
  have h1 := hn 53 (by decide); have h2 := hn 54 (by decide); have h3 := hn 60 (by decide); have h4 := hn 61 (by decide)
  simp; omega
/-! painted: the first that is not so -/
def fbad (B : Nat → Bool) : Nat → Nat → Int32
  | _, 0 => -2
  | i, r + 1 => if B i then nI i else fbad B (i + 1) r
def badB (V W : Nat → Int32) (f : Fo) (φ : Ph) (s : Sc) (hs M : Nat) : Nat → Bool := fun i => decide (M < i) || !decide (W i = nI (scN (thk V f φ s i) hs))
theorem lgeq (a c : Int32) : lg_cmp a.toInt64 c.toInt64 = 0 ↔ a = c := by
  unfold lg_cmp
  constructor
  · intro h
    by_cases q : a.toInt64 > c.toInt64
    · rw [if_pos q] at h; exact absurd h (by decide)
    · rw [if_neg q] at h
      by_cases q2 : a.toInt64 = c.toInt64
      · apply Int32.toInt_inj.mp
        rw [← Int32.toInt_toInt64, ← Int32.toInt_toInt64, q2]
      · rw [if_neg q2] at h; exact absurd h (by decide)
  · intro h
    subst h
    rw [if_neg (fun q : a.toInt64 < a.toInt64 => by rw [Int64.lt_iff_toInt_lt] at q; omega), if_pos rfl]
theorem fbad_end {B : Nat → Bool} {i P : Nat} (h : P ≤ i) (e : fbad B i (P - i) = fbad B 0 P) : fbad B 0 P = -2 := by
  rw [← e, show P - i = 0 by omega]; rfl
theorem fbad_step {B : Nat → Bool} {i P : Nat} (h : i < P) (e : fbad B i (P - i) = fbad B 0 P) : (B i = true → fbad B 0 P = nI i) ∧ (B i = false → fbad B (i + 1) (P - (i + 1)) = fbad B 0 P) := by
  rw [show P - i = (P - (i + 1)) + 1 by omega, fbad] at e
  refine ⟨fun q => ?_, fun q => ?_⟩
  · rw [if_pos q] at e; exact e.symm
  · rw [q, if_neg (by decide)] at e; exact e
theorem unlike_x {f : Fo} {s : Sc} {φ : Ph} {h : Hp} (R : RX f s φ h) {k p hs n P : Nat} (hk : k < 6) (hp : p < 6) (hh : hs < 12) (hn : n ≤ 60) (hP : P ≤ 60) (e38 : h.1 38 k = nI n) (p38 : h.1 38 p = nI P) {V W : Nat → Int32} (hV : ∀ j, j < 60 → (h.2.1 (32 + k) j).toInt32 = V j) (hW : ∀ j, j < 60 → h.2.1 (32 + p) j = (W j).toInt64) : Ev (f_X7_firstUnlike (nI k) (nI p) (nI hs) h) fun r => r.1 = fbad (badB V W f φ s hs (lead V (foW f) 0 (min 40 n))) 0 P ∧ Kp [11, 12, 17, 18, 19, 20] h r.2 ∧ Thk 17 r.2 := by
  have hw := R.2.2.1.2.1
  have so := R.2.2.2.1
  obtain ⟨g, g1, g2⟩ := RX.start R
  unfold f_X7_firstUnlike
  rw [g1]
  simp only [Option.bind_some]
  refine ev_call (callsOn_x (w := foW f) (n := n) (h := g) hk hn hw (by rw [g2.1.i 38 (by decide), e38]) (by rw [g2.1.i 1 (by decide), R.2.2.2.2.1.2.1])) (fun c hc => ?_)
  rw [lead_congr (V' := V) _ _ (fun j hj => by rw [g2.1.l (32 + k) (by simp; omega)]; exact hV j (by omega))] at hc
  have hl := lead_le V (foW f) (min 40 n) 0
  have hgood := lead_good V (foW f) (min 40 n) 0
  subst hc
  unfold f_X6_size
  rw [rd_38 hp, g2.1.i 38 (by decide), p38]
  simp only [Option.bind_some]
  generalize lead V (foW f) 0 (min 40 n) = M at hl hgood
  obtain ⟨B, hB⟩ : ∃ B, B = badB V W f φ s hs M := ⟨_, rfl⟩
  rw [← hB]
  refine ev_call (P := Sum.elim (fun u : Int32 × Hp => fbad B 0 P = -2 ∧ Kp [11, 12, 17, 18, 19, 20] h u.2 ∧ Thk 17 u.2) (fun u : Int32 × Hp => u.1 = fbad B 0 P ∧ Kp [11, 12, 17, 18, 19, 20] h u.2 ∧ Thk 17 u.2)) (ev_for (k := 0) (fun i (u : Int32 × Hp) => u.1 = nI i ∧ fbad B i (P - i) = fbad B 0 P ∧ ThX f φ (thk V f φ s (i - 1)) h u.2) P (fun i u hi hu => ?_) ⟨rfl, rfl, g2⟩ (Nat.zero_le _) (by rw [FUe]; omega)) (fun u hu => ?_)
  · obtain ⟨x, y⟩ := u
    obtain ⟨p1, p2, p3⟩ := hu
    simp only at p1 p2 p3
    subst p1
    unfold b_X7_firstUnlike_31
    by_cases z : P ≤ i
    · rw [if_pos (nI_le z (by omega))]
      exact ev_some ⟨fbad_end z p2, p3.1, p3.thk R.2.2.1⟩
    · rw [if_neg (by rw [nI_leI (by omega) (by omega)]; exact z)]
      obtain ⟨s1, s2⟩ := fbad_step (by omega) p2
      by_cases zM : i ≤ M
      · rw [if_pos (nI_le zM (by omega))]
        have fin : ∀ y, ThX f φ (thk V f φ s i) h y → Ev (j_X7_firstUnlike_63 (nI k) (nI p) (nI hs) (nI M) (nI P) (nI i) y) (Sum.elim (fun t : Int32 × Hp => i < P ∧ t.1 = nI (i + 1) ∧ fbad B (i + 1) (P - (i + 1)) = fbad B 0 P ∧ ThX f φ (thk V f φ s (i + 1 - 1)) h t.2) (fun o => Sum.elim (fun u : Int32 × Hp => fbad B 0 P = -2 ∧ Kp [11, 12, 17, 18, 19, 20] h u.2 ∧ Thk 17 u.2) (fun u : Int32 × Hp => u.1 = fbad B 0 P ∧ Kp [11, 12, 17, 18, 19, 20] h u.2 ∧ Thk 17 u.2) o)) := by
          intro y hy
          unfold j_X7_firstUnlike_63
          rw [val_n hp (by omega), rd_18 hh, hy.2.n17 hh, hy.1.l (32 + p) (by simp; omega), hW i (by omega)]
          simp only [Option.bind_some]
          by_cases q : W i = nI (scN (thk V f φ s i) hs)
          · rw [if_pos ((lgeq _ _).mpr q)]
            refine ev_some ⟨by omega, by rw [nl1, nI_add], s2 ?_, hy⟩
            rw [hB]; unfold badB; simp [q]; omega
          · rw [if_neg (fun x => q ((lgeq _ _).mp x))]
            refine ev_some ⟨(s1 ?_).symm, hy.1, hy.thk R.2.2.1⟩
            rw [hB]; unfold badB; simp [q]
        by_cases z0 : i = 0
        · subst z0
          rw [if_pos (show nI 0 ≤ (0 : Int32) by decide)]
          exact fin y p3
        · rw [if_neg (by rw [nl0, nI_leI (by omega) (by decide)]; omega), nl1, nI_sub (by omega)]
          refine ev_call (RX.callOf R (thk_ok so _) p3 hk (show i - 1 < 60 by omega) (hV _ (by omega)) (hgood (i - 1) (Nat.zero_le _) (by omega))) (fun r hr => fin r.2 ?_)
          have h1 := hr.2
          have h2 : thk V f φ s i = cal f φ (thk V f φ s (i - 1)) (tcI (V (i - 1))) (tcH (V (i - 1))) := by
            conv => lhs; rw [show i = (i - 1) + 1 by omega]
            rfl
          rw [h2]
          exact h1
      · rw [if_neg (by rw [nI_leI (by omega) (by omega)]; exact zM)]
        refine ev_some ⟨(s1 ?_).symm, p3.1, p3.thk R.2.2.1⟩
        rw [hB]; unfold badB; simp; left; omega
  · cases u with
    | inl a => exact ev_some ⟨hu.1.symm, hu.2⟩
    | inr a => exact ev_some hu
theorem unlike_m {f : Fo} {s : Sc} {φ : Ph} {h : Hp} (R : RM f s φ h) {k p hs n P : Nat} {a : Int32} (ea : a / 10 = nI k) (eb : a % 10 = nI p) (hk : k < 6) (hp : p < 6) (hh : hs < 12) (hn : n ≤ 60) (hP : P ≤ 60) (e80 : h.1 80 k = nI n) (p80 : h.1 80 p = nI P) {V W : Nat → Int32} (hV : ∀ j, j < 60 → (h.2.1 81 (60 * k + j)).toInt32 = V j) (hW : ∀ j, j < 60 → (h.2.1 81 (60 * p + j)).toInt32 = W j) : Ev (f_X8_unlike a (nI hs) h) fun r => r.1 = fbad (badB V W f φ s hs (lead V (foW f) 0 (min 40 n))) 0 P ∧ RM f s φ r.2 ∧ Kp [53, 54, 60, 61, 71, 72, 82] h r.2 ∧ ∀ j, r.2.1 53 j = h.1 53 j := by
  have hw := R.2.2.1.2.1
  have so := R.2.2.2.1
  unfold f_X8_unlike
  rw [ea, eb]
  refine ev_call (RM.start R (Or.inl rfl)) (fun g hg => ?_)
  refine ev_call (callsOf_m (w := foW f) (n := n) (h := g) hk hn hw (by rw [hg.1.i 80 (by decide), e80]) ((RM.fo R (Or.inl rfl) hg).1.2.1)) (fun c hc => ?_)
  rw [lead_congr (V' := V) _ _ (fun j hj => by rw [hg.1.l 81 (by decide)]; exact hV j (by omega))] at hc
  have hl := lead_le V (foW f) (min 40 n) 0
  have hgood := lead_good V (foW f) (min 40 n) 0
  subst hc
  generalize lead V (foW f) 0 (min 40 n) = M at hl hgood
  obtain ⟨B, hB⟩ : ∃ B, B = badB V W f φ s hs M := ⟨_, rfl⟩
  rw [← hB]
  refine ev_call (P := fun u : Int32 × Int32 × Hp => u.1 = fbad B 0 P ∧ ∃ s', ThM f φ s s' 82 h u.2.2) (ev_for (k := 0) (fun i (u : Int32 × Int32 × Hp) => u.2.1 = nI i ∧ ((u.1 = -2 ∧ fbad B i (P - i) = fbad B 0 P ∧ ThM f φ s (thk V f φ s (i - 1)) 82 h u.2.2) ∨ (¬ u.1 = -2 ∧ u.1 = fbad B 0 P ∧ ∃ s', ThM f φ s s' 82 h u.2.2))) P (fun i u hi hu => ?_) ⟨rfl, Or.inl ⟨rfl, rfl, hg⟩⟩ (Nat.zero_le _) (by rw [FUe]; omega)) (fun u hu => ?_)
  · obtain ⟨x, x2, y⟩ := u
    obtain ⟨p1, p2⟩ := hu
    simp only at p1 p2
    subst p1
    have K : Kp [53, 54, 60, 61, 71, 72, 82] h y := by
      rcases p2 with ⟨_, _, q⟩ | ⟨_, _, s', q⟩
      · exact q.1
      · exact q.1
    unfold b_X8_unlike_33
    rw [rd_80 hp, K.i 80 (by decide), p80]
    simp only [Option.bind_some]
    by_cases z : P ≤ i
    · rw [if_pos (nI_le z (by omega))]
      rcases p2 with ⟨q1, q2, q3⟩ | ⟨q1, q2, q3⟩
      · exact ev_some ⟨by rw [fbad_end z q2]; exact q1, _, q3⟩
      · exact ev_some ⟨q2, q3⟩
    · rw [if_neg (by rw [nI_leI (by omega) (by omega)]; exact z)]
      rcases p2 with ⟨q1, q2, q3⟩ | ⟨q1, q2, q3⟩
      rotate_left
      · rw [if_neg q1]; exact ev_some ⟨q2, q3⟩
      subst q1
      rw [if_pos rfl]
      obtain ⟨s1, s2⟩ := fbad_step (by omega) q2
      have fin : ∀ y, ThM f φ s (thk V f φ s (if i ≤ M then i else i - 1)) 82 h y → Ev (j_X8_unlike_93 (nI hs) (nI k) (nI p) (nI M) (-2) (nI i) y) (Sum.elim (fun t : Int32 × Int32 × Hp => i < P ∧ t.2.1 = nI (i + 1) ∧ ((t.1 = -2 ∧ fbad B (i + 1) (P - (i + 1)) = fbad B 0 P ∧ ThM f φ s (thk V f φ s (i + 1 - 1)) 82 h t.2.2) ∨ (¬ t.1 = -2 ∧ t.1 = fbad B 0 P ∧ ∃ s', ThM f φ s s' 82 h t.2.2))) (fun u : Int32 × Int32 × Hp => u.1 = fbad B 0 P ∧ ∃ s', ThM f φ s s' 82 h u.2.2)) := by
        intro y hy
        unfold j_X8_unlike_93
        by_cases zM : i ≤ M
        · rw [if_pos zM] at hy
          rw [if_neg (nI_nlt zM (by omega)), rd_54 hh, hy.2.2.1.1 hs hh, told_n hp (by omega), hy.1.l 81 (by decide), hW i (by omega)]
          simp only [Option.bind_some]
          by_cases q : W i = nI (scN (thk V f φ s i) hs)
          · rw [if_pos q.symm]
            refine ev_some ⟨by omega, by rw [nl1, nI_add], Or.inl ⟨rfl, s2 ?_, hy⟩⟩
            rw [hB]; unfold badB; simp [q]; omega
          · rw [if_neg (fun x => q x.symm)]
            refine ev_some ⟨by omega, by rw [nl1, nI_add], Or.inr ⟨nI_m2 (by omega), (s1 ?_).symm, _, hy⟩⟩
            rw [hB]; unfold badB; simp [q]
        · rw [if_pos (nI_lt (by omega) (by omega))]
          refine ev_some ⟨by omega, by rw [nl1, nI_add], Or.inr ⟨nI_m2 (by omega), (s1 ?_).symm, _, hy⟩⟩
          rw [hB]; unfold badB; simp; left; omega
      by_cases z0 : i = 0
      · subst z0
        rw [if_pos (show nI 0 ≤ (0 : Int32) by decide)]
        exact fin y (by rw [if_pos (Nat.zero_le _)]; exact q3)
      · rw [if_neg (by rw [nl0, nI_leI (by omega) (by decide)]; omega)]
        by_cases zM : i ≤ M
        · rw [if_neg (nI_nlt zM (by omega)), nl1, nI_sub (by omega), told_n hk (by omega), q3.1.l 81 (by decide), hV _ (by omega)]
          simp only [Option.bind_some]
          obtain ⟨t1, t2, t3, t4⟩ := goodT_tc hw (hgood (i - 1) (Nat.zero_le _) (by omega))
          rw [t3, t4]
          refine ev_call (RM.call R (thk_ok so _) (Or.inl rfl) q3 t1 t2) (fun r hr => fin r.2 ?_)
          rw [if_pos zM]
          have h1 := hr.2
          have h2 : thk V f φ s i = cal f φ (thk V f φ s (i - 1)) (tcI (V (i - 1))) (tcH (V (i - 1))) := by
            conv => lhs; rw [show i = (i - 1) + 1 by omega]
            rfl
          rw [h2]
          exact h1
        · rw [if_pos (nI_lt (by omega) (by omega))]
          exact fin y (by rw [if_neg zM]; exact q3)
  · obtain ⟨u1, s', u2⟩ := hu
    refine ev_call (RM.stop R (Or.inl rfl) u2) (fun r hr => ev_some ⟨u1, hr.1, hr.2.1, hr.2.2.1⟩)
theorem shelves_c (a : Int32) : (∃ k p, k < 6 ∧ p < 6 ∧ a / 10 = nI k ∧ a % 10 = nI p ∧ f_X7_areShelves a = some 1 ∧ ∀ h, f_X8_noRows a h = (f_X8_noCalls (nI k) h).bind fun r6 => if 0 ≤ r6 then (f_X8_noCalls (nI p) h).bind fun r8 => some r8 else some r6) ∨ (f_X7_areShelves a = some 0 ∧ ∀ h, f_X8_noRows a h = some (-1)) := by
  have n10 : ¬ (1 : Int32) = 0 := by decide
  unfold f_X7_areShelves f_X8_noRows
  by_cases q : a < 0
  · right; rw [if_pos q]; exact ⟨rfl, fun h => if_pos q⟩
  · rw [if_neg q]
    rcases shelf_c (a / 10) with ⟨k, hk, e0, e1, e2⟩ | ⟨e1, e2⟩
    · rcases shelf_c (a % 10) with ⟨p, hp, e3, e4, e5⟩ | ⟨e4, e5⟩
      · left
        refine ⟨k, p, hk, hp, e0, e3, ?_, fun h => ?_⟩
        · rw [e1]; simp only [Option.bind_some, if_neg n10]; rw [e4]; rfl
        · rw [if_neg q, e2]; simp only [Option.bind_some, if_neg n10]; rw [e5]; simp only [Option.bind_some, if_neg n10]; rw [e0, e3]
      · right
        refine ⟨?_, fun h => ?_⟩
        · rw [e1]; simp only [Option.bind_some, if_neg n10]; rw [e4]; rfl
        · rw [if_neg q, e2]; simp only [Option.bind_some, if_neg n10]; rw [e5]; rfl
    · right
      refine ⟨?_, fun h => ?_⟩
      · rw [e1]; rfl
      · rw [if_neg q, e2]; rfl
def RowS (k : Nat) (h : Hp) : Prop := (∀ j, j < 60 → h.2.1 (32 + k) j = h.2.1 81 (60 * k + j)) ∧ ∀ j, j < 60 → ∃ v : Int32, h.2.1 (32 + k) j = v.toInt64
theorem painted_c {b k p : Nat} {a : Int32} {h : Hp} (hb : b ≤ 50) (hk : k < 6) (hp : p < 6) (S : ShAt b h k) (T : ShAt b h p) (ea : a / 10 = nI k) (eb : a % 10 = nI p) (er : ∀ h, f_X8_noRows a h = (f_X8_noCalls (nI k) h).bind fun r6 => if 0 ≤ r6 then (f_X8_noCalls (nI p) h).bind fun r8 => some r8 else some r6) : (∃ v : Int32, (v = -11 ∨ v = -12) ∧ f_X7_paintedRefusal a h = some v ∧ f_X8_noRows a h = some v) ∨ (f_X7_paintedRefusal a h = some 0 ∧ f_X8_noRows a h = some 0 ∧ RowS k h ∧ RowS p h) := by
  unfold f_X7_paintedRefusal
  rw [er, ea, eb]
  rcases paint_c hb hk S with ⟨p1, p2⟩ | ⟨p1, p2⟩ | ⟨p1, p2, p3, p4⟩
  · exact Or.inl ⟨-11, Or.inl rfl, by rw [p1]; rfl, by rw [p2]; rfl⟩
  · exact Or.inl ⟨-12, Or.inr rfl, by rw [p1]; rfl, by rw [p2]; rfl⟩
  · rcases paint_c hb hp T with ⟨q1, q2⟩ | ⟨q1, q2⟩ | ⟨q1, q2, q3, q4⟩
    · exact Or.inl ⟨-11, Or.inl rfl, by rw [p1, q1]; rfl, by rw [p2, q2]; rfl⟩
    · exact Or.inl ⟨-12, Or.inr rfl, by rw [p1, q1]; rfl, by rw [p2, q2]; rfl⟩
    · exact Or.inr ⟨by rw [p1, q1]; rfl, by rw [p2, q2]; rfl, ⟨p3, p4⟩, ⟨q3, q4⟩⟩
theorem noRows_eq (a : Int32) {h g : Hp} (e : g.1 79 = h.1 79) : f_X8_noRows a g = f_X8_noRows a h := by
  unfold f_X8_noRows f_X8_noCalls rdI
  rw [e]
theorem RowS.to32 {k : Nat} {h : Hp} (r : RowS k h) : ∀ j, j < 60 → h.2.1 (32 + k) j = ((h.2.1 (32 + k) j).toInt32).toInt64 := by
  intro j hj
  obtain ⟨v, hv⟩ := r.2 j hj
  rw [hv]
  congr 1
  apply Int32.toInt_inj.mp
  rw [Int64.toInt_toInt32, Int32.toInt_toInt64]
  rw [Int.bmod_eq_of_le]
  · have := v.le_toInt; simpa using this
  · have := v.toInt_lt; simpa using this
theorem a_judge (v w : Int32) (h : Hp) (R : Rel h) : Ag (f_X7_judge v w h) (f_X8_judge v w) := by
  have R0 := R
  obtain ⟨f, s, φ, b, R0A⟩ := R
  have n10 : ¬ (1 : Int32) = 0 := by decide
  have r15 := R0A.2.2.2.2.2.2.2.1
  have hb := R0A.2.2.2.2.2.2.2.2.1
  rcases shelves_c v with ⟨k, p, hk, hp, ea, eb, e1, e2⟩ | ⟨e1, e2⟩
  rotate_left
  · refine ag_same R0 (v := -1) ?_ ?_
    · unfold f_X7_judge; rw [e1]; rfl
    · unfold f_X8_judge; rw [e2]; rfl
  obtain ⟨w1, n, w2, w3, w4⟩ := r15 k hk
  obtain ⟨x1, P, x2, x3, x4⟩ := r15 p hp
  have hne : ∀ v : Int32, v = 0 ∨ v = -11 ∨ v = -12 → ¬ v = -1 := by
    intro v hv
    rcases hv with rfl | rfl | rfl <;> decide
  have hnr : ∃ v : Int32, (v = 0 ∨ v = -11 ∨ v = -12) ∧ f_X8_noRows v h = f_X8_noRows v h := ⟨0, Or.inl rfl, rfl⟩
  rcases house_c w with ⟨hs, hh, rfl, e3, e4⟩ | ⟨e3, e4⟩
  rotate_left
  · refine ag_same R0 (v := -1) ?_ ?_
    · unfold f_X7_judge; rw [e1]; simp only [Option.bind_some, if_neg n10]; rw [e3]; rfl
    · unfold f_X8_judge
      rcases painted_c hb hk hp w1 x1 ea eb e2 with ⟨y, y1, y2, y3⟩ | ⟨y2, y3, _⟩
      · rw [y3]; simp only [Option.bind_some]; rw [if_neg (hne y (Or.inr y1)), e4]; rfl
      · rw [y3]; simp only [Option.bind_some]; rw [if_neg (by decide), e4]; rfl
  rcases painted_c hb hk hp w1 x1 ea eb e2 with ⟨y, y1, y2, y3⟩ | ⟨y2, y3, y4, y5⟩
  · refine ag_same R0 (v := y) ?_ ?_
    · unfold f_X7_judge; rw [e1]; simp only [Option.bind_some, if_neg n10]; rw [e3]; simp only [Option.bind_some, if_neg n10]; rw [y2]; simp only [Option.bind_some]
      rcases y1 with rfl | rfl <;> rfl
    · unfold f_X8_judge; rw [y3]; simp only [Option.bind_some]; rw [if_neg (hne y (Or.inr y1)), e4]; simp only [Option.bind_some, if_neg n10]
      rcases y1 with rfl | rfl <;> rfl
  unfold Ag f_X7_judge
  rw [e1]; simp only [Option.bind_some, if_neg n10]; rw [e3]; simp only [Option.bind_some, if_neg n10]; rw [y2]; simp only [Option.bind_some, if_true]
  rw [ea, eb]
  refine ev_call (unlike_x R0A.rx hk hp hh w2 x2 w3 x3 (V := fun j => (h.2.1 (32 + k) j).toInt32) (W := fun j => (h.2.1 (32 + p) j).toInt32) (fun j _ => rfl) y5.to32) (fun t ht => ?_)
  obtain ⟨t1, t2, t3⟩ := ht
  refine ⟨_, rfl, ?_⟩
  simp only
  have RA := R0A.scr (t2.mono (by decide)) t3
  unfold f_X8_judge
  rw [noRows_eq v (t2.i 79 (by decide)), y3]
  simp only [Option.bind_some]
  rw [if_neg (by decide), e4]
  simp only [Option.bind_some, if_neg n10]
  rw [if_pos (by decide)]
  refine ev_call (unlike_m RA.rm ea eb hk hp hh w2 x2 (by rw [t2.i 80 (by decide)]; exact w4) (by rw [t2.i 80 (by decide)]; exact x4) (V := fun j => (h.2.1 (32 + k) j).toInt32) (W := fun j => (h.2.1 (32 + p) j).toInt32) (fun j hj => by rw [t2.l 81 (by decide), y4.1 j hj]) (fun j hj => by rw [t2.l 81 (by decide), y5.1 j hj])) (fun u hu => ev_some ?_)
  obtain ⟨u1, u2, u3, u4⟩ := hu
  refine ⟨by rw [t1, u1], f, s, φ, b, ?_⟩
  refine RA.up (u3.mono (by decide)) (fun j _ => u4 j) R0A.1.2.2.2 (RA.2.1.2.2.1.eq (u3.i 13 (by decide)) (u3.i 14 (by decide)) (u3.i 15 (by decide))) u2.2.2.2.2.2.1 (RA.2.2.2.1.eq (u3.i 16 (by decide)) (u3.i 73 (by decide))) (RA.thk.eq (u3.i 17 (by decide)))
