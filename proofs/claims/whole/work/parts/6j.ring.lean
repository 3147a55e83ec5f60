/-! rings: walks along wrongs -/
def Eg (f : Fo) (s : Sc) (a b : Nat) : Prop := ∃ w, w < foW f ∧ scF s w = false ∧ foB f w = a ∧ foT f w = b
def Wk (f : Fo) (s : Sc) : Nat → Nat → Nat → Prop
  | 0, p, b => p = b
  | k + 1, p, b => ∃ a, Wk f s k p a ∧ Eg f s a b
theorem wk_fun {f : Fo} {s : Sc} : ∀ k p b, Wk f s k p b → ∃ v : Nat → Nat, v 0 = p ∧ v k = b ∧ ∀ i, i < k → Eg f s (v i) (v (i + 1))
  | 0, p, b, h => ⟨fun _ => p, rfl, h, fun i hi => absurd hi (Nat.not_lt_zero i)⟩
  | k + 1, p, b, ⟨a, h1, h2⟩ => by
    obtain ⟨v, v0, vk, vs⟩ := wk_fun k p a h1
    refine ⟨upN v (k + 1) b, by rw [upN_at, if_neg (by omega)]; exact v0, by rw [upN_at, if_pos rfl], fun i hi => ?_⟩
    rw [upN_at, upN_at, if_neg (by omega)]
    by_cases e : i = k
    · subst e; rw [if_pos rfl, vk]; exact h2
    · rw [if_neg (by omega)]; exact vs i (by omega)
theorem fun_wk {f : Fo} {s : Sc} {v : Nat → Nat} {n : Nat} (hv : ∀ i, i < n → Eg f s (v i) (v (i + 1))) (i : Nat) : ∀ d, i + d ≤ n → Wk f s d (v i) (v (i + d))
  | 0, _ => rfl
  | d + 1, h => ⟨v (i + d), fun_wk hv i d (by omega), hv (i + d) (by omega)⟩
theorem pigeon : ∀ (n : Nat) (v : Nat → Nat), (∀ i, i < n + 1 → v i < n) → ∃ i j, i < j ∧ j < n + 1 ∧ v i = v j
  | 0, v, h => absurd (h 0 (by decide)) (Nat.not_lt_zero _)
  | n + 1, v, h => by
    by_cases c : ∃ i, i < n + 1 ∧ v i = v (n + 1)
    · obtain ⟨i, h1, h2⟩ := c
      exact ⟨i, n + 1, h1, by omega, h2⟩
    · have hne : ∀ i, i < n + 1 → v i ≠ v (n + 1) := fun i hi e => c ⟨i, hi, e⟩
      have hl := h (n + 1) (by omega)
      obtain ⟨i, j, h1, h2, h3⟩ := pigeon n (fun i => if v (n + 1) < v i then v i - 1 else v i) (fun i hi => by
        have h1 := h i (by omega)
        have h2 := hne i hi
        split <;> omega)
      refine ⟨i, j, h1, by omega, ?_⟩
      have a1 := hne i (by omega)
      have a2 := hne j (by omega)
      split at h3 <;> split at h3 <;> omega
theorem shorter {f : Fo} {s : Sc} (ok : FoOk f) {k p : Nat} (hp : p < foP f) (hk : foP f < k) (h : Wk f s k p p) : ∃ k' p', 1 ≤ k' ∧ k' < k ∧ p' < foP f ∧ Wk f s k' p' p' := by
  obtain ⟨v, v0, vk, vs⟩ := wk_fun k p p h
  have hv : ∀ i, i < foP f + 1 → v i < foP f := by
    intro i hi
    by_cases e : i = 0
    · rw [e, v0]; exact hp
    · obtain ⟨w, w1, w2, w3, w4⟩ := vs (i - 1) (by omega)
      rw [show i - 1 + 1 = i by omega] at w4
      rw [← w4]; exact (ok.2.2.2 w w1).2.1
  obtain ⟨i, j, h1, h2, h3⟩ := pigeon (foP f) v hv
  have := fun_wk vs i (j - i) (by omega)
  rw [show i + (j - i) = j by omega, ← h3] at this
  exact ⟨j - i, v i, by omega, by omega, hv i (by omega), this⟩
def SetN (S : Nat) (Q : Nat → Prop) : Prop := S < 4096 ∧ ∀ b, S.testBit b = true ↔ Q b
theorem setN_step {f : Fo} {s : Sc} {S d k p : Nat} (h1 : SetN S (Wk f s k p)) (h2 : SetN d (fun b => ∃ a, S.testBit a = true ∧ Eg f s a b)) : SetN d (Wk f s (k + 1) p) := by
  refine ⟨h2.1, fun b => (h2.2 b).trans ⟨fun ⟨a, a1, a2⟩ => ⟨a, (h1.2 a).mp a1, a2⟩, fun ⟨a, a1, a2⟩ => ⟨a, (h1.2 a).mpr a1, a2⟩⟩⟩
theorem setN_one {f : Fo} {s : Sc} {p : Nat} (hp : p < 12) : SetN (2 ^ p) (Wk f s 0 p) := by
  refine ⟨Nat.pow_lt_pow_right (show 1 < 2 by decide) hp, fun b => ?_⟩
  rw [Nat.testBit_two_pow, decide_eq_true_eq]
  exact Iff.rfl
/-! the reference -/
theorem next_m {f : Fo} {s : Sc} {h : Hp} (ok : FoOk f) (F : FoM f h) (S : ScM (foW f) s h) {A : Nat} (hA : A < 4096) {a1 a2 a4 : Int32} : Ev (iter (b_X8_ring_35 a1 a2 (nI A) a4 h) FU (0, 0)) fun u => ∃ d, u.1 = nI d ∧ SetN d (fun b => ∃ a, A.testBit a = true ∧ Eg f s a b) := by
  have h10 := ok.1
  have h12 := ok.2.1
  have bd : ∀ x i, (nI x >>> (nI i &&& 31)) &&& 1 = (nI x >>> (nI i &&& 31)) &&& nI 1 := fun _ _ => rfl
  have sh1 : ∀ i, (1 : Int32) <<< (nI i &&& 31) = nI 1 <<< (nI i &&& 31) := fun _ => rfl
  refine ev_for (k := 0) (fun w (u : Int32 × Int32) => u.2 = nI w ∧ ∃ d, u.1 = nI d ∧ SetN d (fun b => ∃ v, v < w ∧ scF s v = false ∧ A.testBit (foB f v) = true ∧ foT f v = b)) (foW f) (fun w u hw hu => ?_) ⟨rfl, 0, rfl, by decide, fun b => ⟨fun h => (by rw [Nat.zero_testBit] at h; cases h), fun ⟨v, hv, _⟩ => absurd hv (Nat.not_lt_zero v)⟩⟩ (Nat.zero_le _) (by rw [FUe]; omega)
  obtain ⟨y, y2⟩ := u
  obtain ⟨p1, d, p2, p3⟩ := hu
  simp only at p1 p2
  subst p1 p2
  unfold b_X8_ring_35
  simp only
  rw [F.2.1]
  by_cases z : foW f ≤ w
  · have e : w = foW f := by omega
    rw [if_pos (nI_le z (by omega))]
    refine ev_some ⟨d, rfl, p3.1, fun b => (p3.2 b).trans ⟨fun ⟨v, v1, v2, v3, v4⟩ => ⟨foB f v, v3, v, by omega, v2, rfl, v4⟩, fun ⟨a, a1, v, v1, v2, v3, v4⟩ => ⟨v, by omega, v2, by rw [v3]; exact a1, v4⟩⟩⟩
  · have hw' : w < foW f := by omega
    have a2' := ok.2.2.2 w hw'
    rw [if_neg (by rw [nI_leI (by omega) (by omega)]; exact z), rd_61 (by omega), S.2.2.1 w hw']
    simp only [Option.bind_some]
    have skip : ¬ (scF s w = false ∧ A.testBit (foB f w) = true) → Ev (some (Sum.inl (nI d, nI w + 1)) : Option ((Int32 × Int32) ⊕ (Int32 × Int32))) (Sum.elim (fun u : Int32 × Int32 => w < foW f ∧ u.2 = nI (w + 1) ∧ ∃ d, u.1 = nI d ∧ SetN d (fun b => ∃ v, v < w + 1 ∧ scF s v = false ∧ A.testBit (foB f v) = true ∧ foT f v = b)) (fun u : Int32 × Int32 => ∃ d, u.1 = nI d ∧ SetN d (fun b => ∃ a, A.testBit a = true ∧ Eg f s a b))) := by
      intro hn
      refine ev_some ⟨hw', by rw [nl1, nI_add], d, rfl, p3.1, fun b => (p3.2 b).trans ⟨fun ⟨v, v1, v2, v3, v4⟩ => ⟨v, by omega, v2, v3, v4⟩, fun ⟨v, v1, v2, v3, v4⟩ => ?_⟩⟩
      by_cases e : v = w
      · rw [e] at v2 v3; exact absurd ⟨v2, v3⟩ hn
      · exact ⟨v, by omega, v2, v3, v4⟩
    cases ef : scF s w with
    | true =>
      rw [if_neg (by decide)]
      exact skip (fun h => by rw [ef] at h; cases h.1)
    | false =>
      rw [if_pos (show nI (bI false) = 0 from rfl), rd_57 (by omega), (F.2.2.2 w hw').1]
      simp only [Option.bind_some]
      rw [bd, bit_rd hA (by omega)]
      cases eb : A.testBit (foB f w) with
      | false =>
        rw [if_neg (by decide)]
        exact skip (fun h => by rw [eb] at h; cases h.2)
      | true =>
        rw [if_pos (show nI (bI true) = 1 from rfl), rd_58 (by omega), (F.2.2.2 w hw').2.1]
        simp only [Option.bind_some]
        rw [sh1, bit_or p3.1 (by omega)]
        refine ev_some ⟨hw', by rw [nl1, nI_add], _, rfl, or_lt (W := 12) p3.1 (by omega), fun b => ?_⟩
        rw [or_tb, Bool.or_eq_true, p3.2 b, decide_eq_true_eq]
        constructor
        · rintro (⟨v, v1, v2, v3, v4⟩ | h1)
          · exact ⟨v, by omega, v2, v3, v4⟩
          · exact ⟨w, by omega, ef, eb, h1⟩
        · rintro ⟨v, v1, v2, v3, v4⟩
          by_cases e : v = w
          · right; rw [← v4, e]
          · exact Or.inl ⟨v, by omega, v2, v3, v4⟩
def Lst (f : Fo) (s : Sc) (D : Nat → Nat → Prop) (x : Int32) : Prop := (x = -2 ∧ ∀ k p, D k p → ¬ Wk f s k p p) ∨ ∃ m p, x = nI m ∧ m ≤ 11 ∧ D m p ∧ Wk f s m p p ∧ ∀ k q, D k q → Wk f s k q q → m ≤ k
theorem Lst.no {f : Fo} {s : Sc} {D D' : Nat → Nat → Prop} {x : Int32} {m q : Nat} (h : Lst f s D x) (hs : ∀ k p, D' k p ↔ D k p ∨ (k = m ∧ p = q)) (hn : ¬ Wk f s m q q) : Lst f s D' x := by
  rcases h with ⟨h1, h2⟩ | ⟨k, p, h1, h2, h3, h4, h5⟩
  · refine Or.inl ⟨h1, fun k p hd => ?_⟩
    rcases (hs k p).mp hd with hd | ⟨rfl, rfl⟩
    · exact h2 k p hd
    · exact hn
  · refine Or.inr ⟨k, p, h1, h2, (hs k p).mpr (Or.inl h3), h4, fun k' q' hd hw => ?_⟩
    rcases (hs k' q').mp hd with hd | ⟨rfl, rfl⟩
    · exact h5 k' q' hd hw
    · exact absurd hw hn
theorem ring_m {f : Fo} {s : Sc} {h : Hp} (ok : FoOk f) (F : FoM f h) (S : ScM (foW f) s h) : Ev (f_X8_ring h) fun r => Lst f s (fun k p => 1 ≤ k ∧ k ≤ foP f ∧ p < foP f) r := by
  have h10 := ok.1
  have h12 := ok.2.1
  have bd : ∀ x i, (nI x >>> (nI i &&& 31)) &&& 1 = (nI x >>> (nI i &&& 31)) &&& nI 1 := fun _ _ => rfl
  unfold f_X8_ring
  refine ev_call (P := fun u : Int32 × Int32 => Lst f s (fun k p => 1 ≤ k ∧ k ≤ foP f ∧ p < foP f) u.1) (ev_for (k := 0) (fun p (u : Int32 × Int32) => u.2 = nI p ∧ Lst f s (fun k q => 1 ≤ k ∧ k ≤ foP f ∧ q < p) u.1) (foP f) (fun p u hp hu => ?_) ⟨rfl, Or.inl ⟨rfl, fun k q hd => absurd hd.2.2 (Nat.not_lt_zero q)⟩⟩ (Nat.zero_le _) (by rw [FUe]; omega)) (fun u hu => ev_some hu)
  obtain ⟨x, y⟩ := u
  obtain ⟨p1, p2⟩ := hu
  simp only at p1 p2
  subst p1
  unfold b_X8_ring_5
  simp only
  rw [F.1]
  by_cases z : foP f ≤ p
  · have e : p = foP f := by omega
    rw [if_pos (nI_le z (by omega))]
    rw [e] at p2
    exact ev_some p2
  · rw [if_neg (by rw [nI_leI (by omega) (by omega)]; exact z)]
    refine ev_call (P := fun u : Int32 × Int32 × Int32 => Lst f s (fun k q => 1 ≤ k ∧ k ≤ foP f ∧ q < p + 1) u.1) (ev_for (k := 0) (fun k (u : Int32 × Int32 × Int32) => u.2.2 = nI (k + 1) ∧ (∃ A, u.2.1 = nI A ∧ SetN A (Wk f s k p)) ∧ Lst f s (fun k' q => 1 ≤ k' ∧ k' ≤ foP f ∧ (q < p ∨ (q = p ∧ k' ≤ k))) u.1) (foP f) (fun k u hk hu => ?_) ⟨rfl, ⟨2 ^ p, bit_one p (by omega), setN_one (by omega)⟩, ?_⟩ (Nat.zero_le _) (by rw [FUe]; omega)) (fun u hu => ev_some ⟨by omega, by rw [nl1, nI_add], hu⟩)
    · obtain ⟨x, y, w⟩ := u
      obtain ⟨q1, ⟨A, q2, q3⟩, q4⟩ := hu
      simp only at q1 q2 q4
      subst q1 q2
      unfold b_X8_ring_20
      simp only
      rw [F.1]
      by_cases z2 : foP f ≤ k
      · have e : k = foP f := by omega
        rw [if_pos (nI_lt (by omega) (by omega))]
        refine ev_some ?_
        have : (fun k' q => 1 ≤ k' ∧ k' ≤ foP f ∧ (q < p ∨ (q = p ∧ k' ≤ k))) = (fun k' q => 1 ≤ k' ∧ k' ≤ foP f ∧ q < p + 1) := by
          funext k' q
          apply propext
          omega
        rw [this] at q4
        exact q4
      · rw [if_neg (nI_nlt (by omega) (by omega))]
        refine ev_call (next_m ok F S q3.1) (fun t ht => ?_)
        obtain ⟨d, t1, t2⟩ := ht
        have t3 := setN_step q3 t2
        have hs : ∀ k' q, (1 ≤ k' ∧ k' ≤ foP f ∧ (q < p ∨ (q = p ∧ k' ≤ k + 1))) ↔ (1 ≤ k' ∧ k' ≤ foP f ∧ (q < p ∨ (q = p ∧ k' ≤ k))) ∨ (k' = k + 1 ∧ q = p) := by
          intro k' q
          omega
        rw [t1, bd, bit_rd t3.1 (by omega)]
        cases eb : d.testBit p with
        | false =>
          rw [if_neg (by decide)]
          refine ev_some ⟨by omega, by rw [nl1, nI_add], ⟨d, rfl, t3⟩, q4.no hs (fun hw => by rw [(t3.2 p).mpr hw] at eb; cases eb)⟩
        | true =>
          have hw : Wk f s (k + 1) p p := (t3.2 p).mp eb
          rw [if_pos (show nI (bI true) = 1 from rfl)]
          rcases q4 with ⟨h1, h2⟩ | ⟨m, q, h1, h2, h3, h4, h5⟩
          · rw [if_pos h1]
            refine ev_some ⟨by omega, by rw [nl1, nI_add], ⟨d, rfl, t3⟩, Or.inr ⟨k + 1, p, rfl, by omega, (hs _ _).mpr (Or.inr ⟨rfl, rfl⟩), hw, fun k' q' hd hw' => ?_⟩⟩
            rcases (hs k' q').mp hd with hd | ⟨rfl, rfl⟩
            · exact absurd hw' (h2 k' q' hd)
            · exact Nat.le_refl _
          · rw [h1, if_neg (nI_m2 (by omega))]
            by_cases c : m ≤ k + 1
            · rw [if_pos (nI_le c (by omega))]
              refine ev_some ⟨by omega, by rw [nl1, nI_add], ⟨d, rfl, t3⟩, Or.inr ⟨m, q, rfl, h2, (hs _ _).mpr (Or.inl h3), h4, fun k' q' hd hw' => ?_⟩⟩
              rcases (hs k' q').mp hd with hd | ⟨rfl, rfl⟩
              · exact h5 k' q' hd hw'
              · exact c
            · rw [if_neg (by rw [nI_leI (by omega) (by omega)]; exact c)]
              refine ev_some ⟨by omega, by rw [nl1, nI_add], ⟨d, rfl, t3⟩, Or.inr ⟨k + 1, p, rfl, by omega, (hs _ _).mpr (Or.inr ⟨rfl, rfl⟩), hw, fun k' q' hd hw' => ?_⟩⟩
              rcases (hs k' q').mp hd with hd | ⟨rfl, rfl⟩
              · have := h5 k' q' hd hw'; omega
              · exact Nat.le_refl _
    · have : (fun k q => 1 ≤ k ∧ k ≤ foP f ∧ q < p) = (fun k' q => 1 ≤ k' ∧ k' ≤ foP f ∧ (q < p ∨ (q = p ∧ k' ≤ 0))) := by
        funext k' q
        apply propext
        omega
      rw [this] at p2
      exact p2
/-! the class -/
def NxC (f : Fo) (s : Sc) (w : Nat) (g : Hp) : Prop := ∀ a, a < 10 → ∃ d, g.1 52 a = nI d ∧ SetN d (fun b => ∃ v, v < w ∧ scF s v = false ∧ foB f v = a ∧ foT f v = b)
theorem nexts_x {f : Fo} {s : Sc} {φ : Ph} {h g0 : Hp} (R : RX f s φ h) (K0 : Kp [52] h g0) (hz : ∀ a, a < 10 → g0.1 52 a = 0) : Ev (iter b_X7_ring_10 FU (0, g0)) fun u => NxC f s (foW f) u.2 ∧ Kp [52] h u.2 := by
  obtain ⟨q0, hφ, ok, so, F0, S0, L0, t0⟩ := R
  have h10 := ok.1
  have h12 := ok.2.1
  have sh1 : ∀ i, (1 : Int32) <<< (nI i &&& 31) = nI 1 <<< (nI i &&& 31) := fun _ => rfl
  refine ev_for (k := 0) (fun w (u : Int32 × Hp) => u.1 = nI w ∧ NxC f s w u.2 ∧ Kp [52] h u.2) (foW f) (fun w u hw hu => ?_) ⟨rfl, fun a ha => ⟨0, hz a ha, by decide, fun b => ⟨fun h => (by rw [Nat.zero_testBit] at h; cases h), fun ⟨v, hv, _⟩ => absurd hv (Nat.not_lt_zero v)⟩⟩, K0⟩ (Nat.zero_le _) (by rw [FUe]; omega)
  obtain ⟨y, g⟩ := u
  obtain ⟨p1, p2, p3⟩ := hu
  simp only at p1 p2 p3
  subst p1
  have F := F0.kp p3 (by decide)
  have S := S0.kp p3 (by decide) (by decide) (by decide)
  unfold b_X7_ring_10
  simp only
  rw [F.2.1]
  by_cases z : foW f ≤ w
  · have e : w = foW f := by omega
    rw [if_pos (nI_le z (by omega))]
    rw [e] at p2
    exact ev_some ⟨p2, p3⟩
  · have hw' : w < foW f := by omega
    have a2 := ok.2.2.2 w hw'
    rw [if_neg (by rw [nI_leI (by omega) (by omega)]; exact z), isForg_x ok13 h12 S hw']
    simp only [Option.bind_some]
    cases ef : scF s w with
    | true =>
      rw [if_neg (by decide)]
      refine ev_some ⟨hw', by rw [nl1, nI_add], fun a ha => ?_, p3⟩
      obtain ⟨d, d1, d2, d3⟩ := p2 a ha
      refine ⟨d, d1, d2, fun b => (d3 b).trans ⟨fun ⟨v, v1, v2, v3⟩ => ⟨v, by omega, v2, v3⟩, fun ⟨v, v1, v2, v3⟩ => ⟨v, ?_, v2, v3⟩⟩⟩
      by_cases e : v = w
      · rw [e, ef] at v2; cases v2
      · omega
    | false =>
      rw [if_pos (by decide), rd_4 (by omega), (F.2.2.2 w hw').1]
      simp only [Option.bind_some]
      obtain ⟨d, d1, d2, d3⟩ := p2 (foB f w) (by omega)
      rw [rd_52 (by omega), d1, rd_5 (by omega), (F.2.2.2 w hw').2.1]
      simp only [Option.bind_some]
      rw [sh1, bit_or d2 (by omega), wr_52 (by omega)]
      refine ev_some ⟨hw', by rw [nl1, nI_add], fun a ha => ?_, p3.st (by decide)⟩
      by_cases e : a = foB f w
      · refine ⟨d ||| 2 ^ foT f w, ?_, or_lt (W := 12) d2 (by omega), fun b => ?_⟩
        · show (stI g 52 _ _).1 52 a = _
          rw [stI_at, if_pos rfl, if_pos e]
        · rw [or_tb, Bool.or_eq_true, d3 b, decide_eq_true_eq]
          constructor
          · rintro (⟨v, v1, v2, v3, v4⟩ | h1)
            · exact ⟨v, by omega, v2, by rw [v3, e], v4⟩
            · exact ⟨w, by omega, ef, e.symm, h1⟩
          · rintro ⟨v, v1, v2, v3, v4⟩
            by_cases e2 : v = w
            · right; rw [← v4, e2]
            · exact Or.inl ⟨v, by omega, v2, by rw [v3, e], v4⟩
      · obtain ⟨d', x1, x2, x3⟩ := p2 a ha
        refine ⟨d', ?_, x2, fun b => (x3 b).trans ⟨fun ⟨v, v1, v2, v3⟩ => ⟨v, by omega, v2, v3⟩, fun ⟨v, v1, v2, v3⟩ => ⟨v, ?_, v2, v3⟩⟩⟩
        · show (stI g 52 _ _).1 52 a = _
          rw [stI_at, if_pos rfl, if_neg e]; exact x1
        · by_cases e2 : v = w
          · rw [e2] at v3; exact absurd v3.1.symm e
          · omega
theorem there_x {f : Fo} {s : Sc} {g : Hp} (ok : FoOk f) (F : FoX f g) (N : NxC f s (foW f) g) {A : Nat} (hA : A < 4096) {a1 a3 : Int32} : Ev (iter (b_X7_stepsHome_18 a1 (nI A) a3 g) FU (0, 0)) fun u => ∃ d, u.1 = nI d ∧ SetN d (fun b => ∃ a, A.testBit a = true ∧ Eg f s a b) := by
  have h10 := ok.1
  have bd : ∀ x i, (nI x >>> (nI i &&& 31)) &&& 1 = (nI x >>> (nI i &&& 31)) &&& nI 1 := fun _ _ => rfl
  refine ev_for (k := 0) (fun q (u : Int32 × Int32) => u.2 = nI q ∧ ∃ d, u.1 = nI d ∧ SetN d (fun b => ∃ a, a < q ∧ A.testBit a = true ∧ Eg f s a b)) (foP f) (fun q u hq hu => ?_) ⟨rfl, 0, rfl, by decide, fun b => ⟨fun h => (by rw [Nat.zero_testBit] at h; cases h), fun ⟨v, hv, _⟩ => absurd hv (Nat.not_lt_zero v)⟩⟩ (Nat.zero_le _) (by rw [FUe]; omega)
  obtain ⟨y, y2⟩ := u
  obtain ⟨p1, d, p2, p3⟩ := hu
  simp only at p1 p2
  subst p1 p2
  unfold b_X7_stepsHome_18
  simp only
  rw [F.1]
  by_cases z : foP f ≤ q
  · have e : q = foP f := by omega
    rw [if_pos (nI_le z (by omega))]
    refine ev_some ⟨d, rfl, p3.1, fun b => (p3.2 b).trans ⟨fun ⟨a, a1, a2, a3⟩ => ⟨a, a2, a3⟩, fun ⟨a, a2, a3⟩ => ⟨a, ?_, a2, a3⟩⟩⟩
    obtain ⟨w, w1, w2, w3, w4⟩ := a3
    rw [e, ← w3]; exact (ok.2.2.2 w w1).1
  · have hq' : q < foP f := by omega
    rw [if_neg (by rw [nI_leI (by omega) (by omega)]; exact z), bd, bit_rd hA (by omega)]
    cases eb : A.testBit q with
    | false =>
      rw [if_pos (by decide)]
      refine ev_some ⟨hq', by rw [nl1, nI_add], d, rfl, p3.1, fun b => (p3.2 b).trans ⟨fun ⟨a, a1, a2⟩ => ⟨a, by omega, a2⟩, fun ⟨a, a1, a2, a3⟩ => ⟨a, ?_, a2, a3⟩⟩⟩
      by_cases e : a = q
      · rw [e, eb] at a2; cases a2
      · omega
    | true =>
      obtain ⟨d', x1, x2, x3⟩ := N q (by omega)
      rw [if_neg (by decide), rd_52 (by omega), x1]
      simp only [Option.bind_some]
      rw [or_n]
      refine ev_some ⟨hq', by rw [nl1, nI_add], d ||| d', rfl, Nat.or_lt_two_pow (n := 12) p3.1 x2, fun b => ?_⟩
      rw [Nat.testBit_or, Bool.or_eq_true, p3.2 b, x3 b]
      constructor
      · rintro (⟨a, a1, a2, a3⟩ | ⟨v, v1, v2, v3, v4⟩)
        · exact ⟨a, by omega, a2, a3⟩
        · exact ⟨q, by omega, eb, v, v1, v2, v3, v4⟩
      · rintro ⟨a, a1, a2, w, w1, w2, w3, w4⟩
        by_cases e : a = q
        · exact Or.inr ⟨w, w1, w2, by rw [w3, e], w4⟩
        · exact Or.inl ⟨a, by omega, a2, w, w1, w2, w3, w4⟩
theorem home_x {f : Fo} {s : Sc} {g : Hp} (ok : FoOk f) (F : FoX f g) (N : NxC f s (foW f) g) {p : Nat} (hp : p < foP f) : Ev (f_X7_stepsHome (nI p) g) fun r => (r = -2 ∧ ∀ k, 1 ≤ k → k ≤ 10 → ¬ Wk f s k p p) ∨ ∃ m, r = nI m ∧ 1 ≤ m ∧ m ≤ 10 ∧ Wk f s m p p ∧ ∀ k, 1 ≤ k → k < m → ¬ Wk f s k p p := by
  have h10 := ok.1
  have bd : ∀ x i, (nI x >>> (nI i &&& 31)) &&& 1 = (nI x >>> (nI i &&& 31)) &&& nI 1 := fun _ _ => rfl
  unfold f_X7_stepsHome
  refine ev_call (P := fun o : (Int32 × Int32) ⊕ Int32 => Sum.elim (fun _ : Int32 × Int32 => ∀ k, 1 ≤ k → k ≤ 10 → ¬ Wk f s k p p) (fun r : Int32 => ∃ m, r = nI m ∧ 1 ≤ m ∧ m ≤ 10 ∧ Wk f s m p p ∧ ∀ k, 1 ≤ k → k < m → ¬ Wk f s k p p) o) (ev_for (k := 0) (fun k (u : Int32 × Int32) => u.2 = nI (k + 1) ∧ (∃ A, u.1 = nI A ∧ SetN A (Wk f s k p)) ∧ ∀ j, 1 ≤ j → j ≤ k → ¬ Wk f s j p p) 10 (fun k u hk hu => ?_) ⟨rfl, ⟨2 ^ p, bit_one p (by omega), setN_one (by omega)⟩, fun j h1 h2 => by omega⟩ (by decide) (by rw [FUe]; decide)) (fun o ho => ?_)
  · obtain ⟨y, y2⟩ := u
    obtain ⟨p1, ⟨A, p2, p3⟩, p4⟩ := hu
    simp only at p1 p2
    subst p1 p2
    unfold b_X7_stepsHome_6
    by_cases z : 10 ≤ k
    · have e : k = 10 := by omega
      rw [if_pos (by rw [nl10]; exact nI_lt (by omega) (by omega))]
      rw [e] at p4
      exact ev_some p4
    · rw [if_neg (by rw [nl10]; exact nI_nlt (by omega) (by decide))]
      refine ev_call (there_x ok F N p3.1) (fun t ht => ?_)
      obtain ⟨d, t1, t2⟩ := ht
      have t3 := setN_step p3 t2
      rw [t1, bd, bit_rd t3.1 (by omega)]
      cases eb : d.testBit p with
      | false =>
        rw [if_pos (by decide)]
        refine ev_some ⟨by omega, by rw [nl1, nI_add], ⟨d, rfl, t3⟩, fun j h1 h2 hw => ?_⟩
        by_cases e : j = k + 1
        · rw [e] at hw; rw [(t3.2 p).mpr hw] at eb; cases eb
        · exact p4 j h1 (by omega) hw
      | true =>
        rw [if_neg (by decide)]
        exact ev_some ⟨k + 1, rfl, by omega, by omega, (t3.2 p).mp eb, fun j h1 h2 => p4 j h1 (by omega)⟩
  · cases o with
    | inl a => exact ev_some (Or.inl ⟨rfl, ho⟩)
    | inr a => exact ev_some (Or.inr ho)
theorem fill_52 (h : Hp) : Ev (f_J7_fill_53178 52 0 h) fun g => (∀ j, j < 10 → g.1 52 j = 0) ∧ (∀ c, c ≠ 52 → g.1 c = h.1 c) ∧ g.2 = h.2 := by
  unfold f_J7_fill_53178
  rw [show lnI 52 = some (nI 10) by decide]
  simp only [Option.bind_some]
  refine ev_call (P := fun u : Int32 × Hp => (∀ j, j < 10 → u.2.1 52 j = 0) ∧ (∀ c, c ≠ 52 → u.2.1 c = h.1 c) ∧ u.2.2 = h.2) (ev_for (k := 0) (fun i (u : Int32 × Hp) => u.1 = nI i ∧ (∀ j, j < i → u.2.1 52 j = 0) ∧ (∀ c, c ≠ 52 → u.2.1 c = h.1 c) ∧ u.2.2 = h.2) 10 (fun i u hi hu => ?_) ⟨rfl, fun j hj => absurd hj (Nat.not_lt_zero j), fun _ _ => rfl, rfl⟩ (by decide) (by rw [FUe]; decide)) (fun u hu => ev_some hu)
  obtain ⟨y, g⟩ := u
  obtain ⟨p1, p2, p3, p4⟩ := hu
  simp only at p1 p2 p3 p4
  subst p1
  unfold b_J7_fill_53178_5
  by_cases z : 10 ≤ i
  · have e : i = 10 := by omega
    rw [if_pos (nI_le z (by omega))]
    rw [e] at p2
    exact ev_some ⟨p2, p3, p4⟩
  · rw [if_neg (by rw [nI_leI (by decide) (by omega)]; exact z), wr_52 (by omega)]
    refine ev_some ⟨by omega, by rw [nl1, nI_add], fun j hj => ?_, fun c hc => ?_, p4⟩
    · show (stI g 52 i 0).1 52 j = 0
      rw [stI_at, if_pos rfl]
      by_cases e : j = i
      · rw [if_pos e]
      · rw [if_neg e]; exact p2 j (by omega)
    · funext j
      show (stI g 52 i 0).1 c j = _
      rw [stI_at, if_neg hc, p3 c hc]
theorem a_ring (h : Hp) (R : Rel h) : Ev (f_X7_ring h) fun r => Ev (f_X8_ring r.2) fun t => r.1 = t ∧ Rel r.2 := by
  obtain ⟨f, s, φ, b, R0A⟩ := R
  have ok := R0A.1.2.2.1
  have h10 := ok.1
  unfold f_X7_ring
  refine ev_call (fill_52 h) (fun g1 hg1 => ?_)
  obtain ⟨z1, z2, z3⟩ := hg1
  have K1 : Kp [52] h g1 := ⟨by unfold LR; rw [z3]; exact R0A.1.1, fun c hc => ⟨z2 c (fun e => by rw [e] at hc; revert hc; decide), by rw [z3], by rw [z3]⟩⟩
  refine ev_call (nexts_x R0A.rx K1 z1) (fun u hu => ?_)
  obtain ⟨u1, u2⟩ := hu
  have RA : RelA f s φ b u.2 := R0A.scr (u2.mono (by decide)) (R0A.thk.eq (u2.i 17 (by decide)))
  have F := RA.2.1.1
  refine ev_call (P := fun v : Int32 × Int32 => (v.1 = nI 11 ∧ ∀ k p, 1 ≤ k → k ≤ 10 → p < foP f → ¬ Wk f s k p p) ∨ ∃ m p, v.1 = nI m ∧ 1 ≤ m ∧ m ≤ 10 ∧ p < foP f ∧ Wk f s m p p ∧ ∀ k q, 1 ≤ k → k ≤ 10 → q < foP f → Wk f s k q q → m ≤ k) (ev_for (k := 0) (fun p (v : Int32 × Int32) => v.2 = nI p ∧ ((v.1 = nI 11 ∧ ∀ k q, 1 ≤ k → k ≤ 10 → q < p → ¬ Wk f s k q q) ∨ ∃ m q, v.1 = nI m ∧ 1 ≤ m ∧ m ≤ 10 ∧ q < p ∧ Wk f s m q q ∧ ∀ k q, 1 ≤ k → k ≤ 10 → q < p → Wk f s k q q → m ≤ k)) (foP f) (fun p v hp hv => ?_) ⟨rfl, Or.inl ⟨rfl, fun k q _ _ hq => absurd hq (Nat.not_lt_zero q)⟩⟩ (Nat.zero_le _) (by rw [FUe]; omega)) (fun v hv => ?_)
  · obtain ⟨x, y⟩ := v
    obtain ⟨p1, p2⟩ := hv
    simp only at p1 p2
    subst p1
    unfold b_X7_ring_71
    simp only
    rw [F.1]
    by_cases z : foP f ≤ p
    · have e : p = foP f := by omega
      rw [if_pos (nI_le z (by omega))]
      rw [e] at p2
      exact ev_some p2
    · have hp' : p < foP f := by omega
      rw [if_neg (by rw [nI_leI (by omega) (by omega)]; exact z)]
      refine ev_call (home_x ok F u1 hp') (fun t ht => ?_)
      rcases ht with ⟨t1, t2⟩ | ⟨m, t1, t2, t3, t4, t5⟩
      · rw [if_pos t1]
        refine ev_some ⟨hp', by rw [nl1, nI_add], ?_⟩
        rcases p2 with ⟨h1, h2⟩ | ⟨m, q, h1, h2, h3, h4, h5, h6⟩
        · refine Or.inl ⟨h1, fun k q k1 k2 hq => ?_⟩
          by_cases e : q = p
          · rw [e]; exact t2 k k1 k2
          · exact h2 k q k1 k2 (by omega)
        · refine Or.inr ⟨m, q, h1, h2, h3, by omega, h5, fun k q' k1 k2 hq hw => ?_⟩
          by_cases e : q' = p
          · rw [e] at hw; exact absurd hw (t2 k k1 k2)
          · exact h6 k q' k1 k2 (by omega) hw
      · rw [t1, if_neg (nI_m2 (by omega))]
        have new : (∀ k q, 1 ≤ k → k ≤ 10 → q < p → Wk f s k q q → m ≤ k) → Ev (some (Sum.inl (nI m, nI p + 1)) : Option ((Int32 × Int32) ⊕ (Int32 × Int32))) (Sum.elim (fun v : Int32 × Int32 => p < foP f ∧ v.2 = nI (p + 1) ∧ ((v.1 = nI 11 ∧ ∀ k q, 1 ≤ k → k ≤ 10 → q < p + 1 → ¬ Wk f s k q q) ∨ ∃ m q, v.1 = nI m ∧ 1 ≤ m ∧ m ≤ 10 ∧ q < p + 1 ∧ Wk f s m q q ∧ ∀ k q, 1 ≤ k → k ≤ 10 → q < p + 1 → Wk f s k q q → m ≤ k)) (fun v : Int32 × Int32 => (v.1 = nI 11 ∧ ∀ k p, 1 ≤ k → k ≤ 10 → p < foP f → ¬ Wk f s k p p) ∨ ∃ m p, v.1 = nI m ∧ 1 ≤ m ∧ m ≤ 10 ∧ p < foP f ∧ Wk f s m p p ∧ ∀ k q, 1 ≤ k → k ≤ 10 → q < foP f → Wk f s k q q → m ≤ k)) := by
          intro hm
          refine ev_some ⟨hp', by rw [nl1, nI_add], Or.inr ⟨m, p, rfl, t2, t3, by omega, t4, fun k q k1 k2 hq hw => ?_⟩⟩
          by_cases e : q = p
          · rw [e] at hw
            rcases Nat.lt_or_ge k m with c | c
            · exact absurd hw (t5 k k1 c)
            · exact c
          · exact hm k q k1 k2 (by omega) hw
        rcases p2 with ⟨h1, h2⟩ | ⟨m', q, h1, h2, h3, h4, h5, h6⟩
        · rw [h1, if_neg (by rw [nI_leI (by decide) (by omega)]; omega)]
          exact new (fun k q k1 k2 hq hw => absurd hw (h2 k q k1 k2 hq))
        · rw [h1]
          by_cases c : m' ≤ m
          · rw [if_pos (nI_le c (by omega))]
            refine ev_some ⟨hp', by rw [nl1, nI_add], Or.inr ⟨m', q, rfl, h2, h3, by omega, h5, fun k q' k1 k2 hq hw => ?_⟩⟩
            by_cases e : q' = p
            · rw [e] at hw
              rcases Nat.lt_or_ge k m with c2 | c2
              · exact absurd hw (t5 k k1 c2)
              · omega
            · exact h6 k q' k1 k2 (by omega) hw
          · rw [if_neg (by rw [nI_leI (by omega) (by omega)]; exact c)]
            exact new (fun k q' k1 k2 hq hw => by have := h6 k q' k1 k2 hq hw; omega)
  · have M := ring_m ok RA.2.1.2.1 RA.2.1.2.2.2
    rcases hv with ⟨h1, h2⟩ | ⟨m, p, h1, h2, h3, h4, h5, h6⟩
    · rw [h1, if_neg (by decide)]
      refine ⟨_, rfl, ev_mono M (fun t ht => ?_)⟩
      rcases ht with ⟨t1, t2⟩ | ⟨m, p, t1, t2, t3, t4, t5⟩
      · exact ⟨t1.symm, RA.n⟩
      · exact absurd t4 (h2 m p t3.1 (by omega) t3.2.2)
    · rw [h1, if_pos (by rw [nl10]; exact nI_le h3 (by decide))]
      have mP : m ≤ foP f := by
        rcases Nat.lt_or_ge (foP f) m with c | c
        · obtain ⟨k', p', k1, k2, k3, k4⟩ := shorter ok h4 c h5
          have := h6 k' p' k1 (by omega) k3 k4
          omega
        · exact c
      refine ⟨_, rfl, ev_mono M (fun t ht => ?_)⟩
      rcases ht with ⟨t1, t2⟩ | ⟨m', p', t1, t2, t3, t4, t5⟩
      · exact absurd h5 (t2 m p ⟨h2, mP, h4⟩)
      · have e1 := t5 m p ⟨h2, mP, h4⟩ h5
        have e2 := h6 m' p' t3.1 (by omega) t3.2.2 t4
        exact ⟨by rw [t1]; exact congrArg nI (by omega), RA.n⟩
