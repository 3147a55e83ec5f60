theorem lead_congr {V V' : Nat → Int32} {w : Nat} : ∀ r i, (∀ j, j < i + r → V j = V' j) → lead V w i r = lead V' w i r
  | 0, _, _ => rfl
  | r + 1, i, h => by
    unfold lead
    rw [h i (by omega), lead_congr r (i + 1) (fun j hj => h j (by omega))]
/-- the scene after j told calls, and the first that counts nothing -/
def tcI (x : Int32) : Nat := x.toNatClampNeg / 12
def tcH (x : Int32) : Nat := x.toNatClampNeg % 12
def thk (V : Nat → Int32) (f : Fo) (φ : Ph) (s : Sc) : Nat → Sc
  | 0 => s
  | j + 1 => cal f φ (thk V f φ s j) (tcI (V j)) (tcH (V j))
def fstS (V : Nat → Int32) (f : Fo) (φ : Ph) (s : Sc) : Nat → Int32
  | 0 => -2
  | j + 1 => if calN f φ (thk V f φ s j) (tcI (V j)) (tcH (V j)) = 0 then (if fstS V f φ s j = -2 then nI j else fstS V f φ s j) else fstS V f φ s j
theorem thk_ok {V : Nat → Int32} {f : Fo} {φ : Ph} {s : Sc} {w : Nat} (so : ScOk w s) : ∀ n, ScOk w (thk V f φ s n)
  | 0 => so
  | n + 1 => cal_ok (thk_ok so n)
theorem goodT_tc {w : Nat} {x : Int32} (hw : w ≤ 12) (h : goodT w x = true) : tcI x < w ∧ tcH x < 12 ∧ x / 12 = nI (tcI x) ∧ x % 12 = nI (tcH x) := by
  have h0 : ¬ x < 0 := by
    unfold goodT at h
    simp only [Bool.and_eq_true, decide_eq_true_eq] at h
    exact h.1
  obtain ⟨n, hn, rfl⟩ := nI_of h0
  rw [goodT_iff hw hn] at h
  unfold tcI tcH
  rw [nI_clamp hn]
  exact ⟨h, Nat.mod_lt _ (by decide), by rw [nl12, nI_div hn (by decide)], by rw [nl12, nI_mod hn (by decide)]⟩
theorem calN_le {f : Fo} {φ : Ph} {s : Sc} {i hs : Nat} (hφ : PhOk φ) : calN f φ s i hs ≤ 9 := by
  unfold calN
  split
  · decide
  · exact hφ _ _ _ _ _ _
theorem callOf_x {f : Fo} {s s' : Sc} {φ : Ph} {b : Nat} {h g : Hp} (R : RelA f s φ b h) (so : ScOk (foW f) s') (T : ThX f φ s' h g) {k j : Nat} (hk : k < 6) (hj : j < 60) {x : Int32} (hx : (h.2.1 (32 + k) j).toInt32 = x) (hg : goodT (foW f) x = true) : Ev (f_X7_callOf (nI k) (nI j) g) fun r => r.1 = nI (calN f φ s' (tcI x) (tcH x)) ∧ ThX f φ (cal f φ s' (tcI x) (tcH x)) h r.2 := by
  obtain ⟨t1, t2, t3, t4⟩ := goodT_tc R.1.2.2.1.2.1 hg
  unfold f_X7_callOf f_X6_valueAt
  rw [row_at hk]
  simp only [Option.bind_some]
  rw [rdL_n (by rw [row_sz hk]; omega) (by rw [row_sz hk]; decide)]
  simp only [Option.bind_some]
  rw [T.1.l (32 + k) (by simp; omega), hx, t3, t4]
  exact ev_call (ThX.call R so T t1 t2) (fun r hr => ev_some hr)
theorem think_x {f : Fo} {s : Sc} {φ : Ph} {b n k m : Nat} {h : Hp} (R : RelA f s φ b h) (hk : k < 6) (hn : n ≤ 60) (hm : m ≤ 40) (e38 : h.1 38 k = nI n) {V : Nat → Int32} (hV : ∀ j, j < 60 → (h.2.1 (32 + k) j).toInt32 = V j) : Ev (f_X7_think (nI k) (nI m) h) fun r => r.1 = fstS V f φ s (min m (lead V (foW f) 0 (min 40 n))) ∧ ThX f φ (thk V f φ s (min m (lead V (foW f) 0 (min 40 n)))) h r.2 := by
  have hw := R.1.2.2.1.2.1
  obtain ⟨g, g1, g2⟩ := ThX.start R
  unfold f_X7_think
  rw [g1]
  simp only [Option.bind_some]
  refine ev_call (callsOn_x (w := foW f) (n := n) (h := g) hk hn hw (by rw [g2.1.i 38 (by decide), e38]) (by rw [g2.1.i 1 (by decide), R.2.1.1.2.1])) (fun c hc => ?_)
  rw [lead_congr (V' := V) _ _ (fun j hj => by rw [g2.1.l (32 + k) (by simp; omega)]; exact hV j (by omega))] at hc
  have hl := lead_le V (foW f) (min 40 n) 0
  subst hc
  rw [nI_min (by omega) (by omega)]
  obtain ⟨N, hN⟩ : ∃ N, N = min m (lead V (foW f) 0 (min 40 n)) := ⟨_, rfl⟩
  rw [← hN]
  refine ev_call (P := fun u : Int32 × Int32 × Hp => u.1 = fstS V f φ s N ∧ ThX f φ (thk V f φ s N) h u.2.2) (ev_for (k := 0) (fun i (u : Int32 × Int32 × Hp) => u.2.1 = nI i ∧ u.1 = fstS V f φ s i ∧ ThX f φ (thk V f φ s i) h u.2.2) N (fun i u hi hP => ?_) ⟨rfl, rfl, g2⟩ (Nat.zero_le _) (by rw [FUe]; omega)) (fun u hu => ev_some hu)
  obtain ⟨x, y, z⟩ := u
  obtain ⟨p1, p2, p3⟩ := hP
  simp only at p1 p2 p3
  subst p1 p2
  unfold b_X7_think_28
  by_cases q : N ≤ i
  · rw [if_pos (nI_le q (by omega))]
    have : i = N := by omega
    subst this
    exact ev_some ⟨rfl, p3⟩
  · rw [if_neg (by rw [nI_leI (by omega) (by omega)]; exact q)]
    have hg := lead_good V (foW f) (min 40 n) 0 i (Nat.zero_le _) (by omega)
    refine ev_call (callOf_x R (thk_ok R.1.2.2.2 i) p3 hk (show i < 60 by omega) (hV i (by omega)) hg) (fun r hr => ?_)
    have hc := calN_le (f := f) (s := thk V f φ s i) (i := tcI (V i)) (hs := tcH (V i)) R.1.2.1
    rw [hr.1]
    by_cases z1 : calN f φ (thk V f φ s i) (tcI (V i)) (tcH (V i)) = 0
    · rw [if_pos (by rw [z1]; rfl)]
      refine ev_if (fun z2 => ev_some ⟨by omega, by rw [nl1, nI_add], ?_, hr.2⟩) (fun z2 => ev_some ⟨by omega, by rw [nl1, nI_add], ?_, hr.2⟩)
      · show nI i = fstS V f φ s (i + 1)
        rw [fstS, if_pos z1, if_pos z2]
      · show fstS V f φ s i = fstS V f φ s (i + 1)
        rw [fstS, if_pos z1, if_neg z2]
    · rw [if_neg (by rw [nl0, nI_eq (by omega) (by decide)]; exact z1)]
      refine ev_some ⟨by omega, by rw [nl1, nI_add], ?_, hr.2⟩
      show fstS V f φ s i = fstS V f φ s (i + 1)
      rw [fstS, if_neg z1]
theorem goes_m {f : Fo} {s : Sc} {φ : Ph} {b n k m : Nat} {h g : Hp} (R : RelA f s φ b h) (T : ThM f φ s s 82 h g) (hk : k < 6) (hn : n ≤ 60) (hm : m ≤ 40) (e80 : h.1 80 k = nI n) {V : Nat → Int32} (hV : ∀ j, j < 60 → (h.2.1 81 (60 * k + j)).toInt32 = V j) : Ev (f_X8_goes (nI k) (nI m) g) fun r => r.1 = fstS V f φ s (min m (lead V (foW f) 0 (min 40 n))) ∧ ThM f φ s (thk V f φ s (min m (lead V (foW f) 0 (min 40 n)))) 82 h r.2 := by
  have hw := R.1.2.2.1.2.1
  unfold f_X8_goes
  refine ev_call (callsOf_m (w := foW f) (n := n) (h := g) hk hn hw (by rw [T.1.i 80 (by decide), e80]) ((T.fo R (Or.inl rfl)).1.2.1)) (fun c hc => ?_)
  rw [lead_congr (V' := V) _ _ (fun j hj => by rw [T.1.l 81 (by decide)]; exact hV j (by omega))] at hc
  have hl := lead_le V (foW f) (min 40 n) 0
  subst hc
  rw [nI_min (by omega) (by omega)]
  obtain ⟨N, hN⟩ : ∃ N, N = min m (lead V (foW f) 0 (min 40 n)) := ⟨_, rfl⟩
  rw [← hN]
  refine ev_call (P := fun u : Int32 × Int32 × Hp => u.1 = fstS V f φ s N ∧ ThM f φ s (thk V f φ s N) 82 h u.2.2) (ev_for (k := 0) (fun i (u : Int32 × Int32 × Hp) => u.2.1 = nI i ∧ u.1 = fstS V f φ s i ∧ ThM f φ s (thk V f φ s i) 82 h u.2.2) N (fun i u hi hP => ?_) ⟨rfl, rfl, T⟩ (Nat.zero_le _) (by rw [FUe]; omega)) (fun u hu => ev_some hu)
  obtain ⟨x, y, z⟩ := u
  obtain ⟨p1, p2, p3⟩ := hP
  simp only at p1 p2 p3
  subst p1 p2
  unfold b_X8_goes_17 f_X8_toldAt
  by_cases q : N ≤ i
  · rw [if_pos (nI_le q (by omega))]
    have : i = N := by omega
    subst this
    exact ev_some ⟨rfl, p3⟩
  · rw [if_neg (by rw [nI_leI (by omega) (by omega)]; exact q)]
    have hg := lead_good V (foW f) (min 40 n) 0 i (Nat.zero_le _) (by omega)
    obtain ⟨t1, t2, t3, t4⟩ := goodT_tc hw hg
    rw [nl60, nI_mul, nI_add, rd_81 (by omega), p3.1.l 81 (by decide)]
    simp only [Option.bind_some]
    rw [hV i (by omega), t3, t4]
    refine ev_call (ThM.call R (thk_ok R.1.2.2.2 i) (Or.inl rfl) p3 t1 t2) (fun r hr => ?_)
    have hc := calN_le (f := f) (s := thk V f φ s i) (i := tcI (V i)) (hs := tcH (V i)) R.1.2.1
    rw [hr.1]
    by_cases z1 : calN f φ (thk V f φ s i) (tcI (V i)) (tcH (V i)) = 0
    · rw [if_pos (by rw [z1]; rfl)]
      refine ev_if (fun z2 => ev_some ⟨by omega, by rw [nl1, nI_add], ?_, hr.2⟩) (fun z2 => ev_some ⟨by omega, by rw [nl1, nI_add], ?_, hr.2⟩)
      · show nI i = fstS V f φ s (i + 1)
        rw [fstS, if_pos z1, if_pos z2]
      · show fstS V f φ s i = fstS V f φ s (i + 1)
        rw [fstS, if_pos z1, if_neg z2]
    · rw [if_neg (by rw [nl0, nI_eq (by omega) (by decide)]; exact z1)]
      refine ev_some ⟨by omega, by rw [nl1, nI_add], ?_, hr.2⟩
      show fstS V f φ s i = fstS V f φ s (i + 1)
      rw [fstS, if_neg z1]
