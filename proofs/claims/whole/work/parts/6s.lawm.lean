/-! the reference reads a law -/
def offM (L : List Ln) (i : Nat) : Nat := ((L.take i).flatMap cM).length
theorem offM_app (L : List Ln) (l : Ln) {i : Nat} (h : i ≤ L.length) : offM (L ++ [l]) i = offM L i := by
  unfold offM
  rw [List.take_append_of_le_length h]
theorem offM_all (L : List Ln) : offM L L.length = (L.flatMap cM).length := by
  unfold offM
  rw [List.take_length]
theorem flat_app (L : List Ln) (l : Ln) : (L ++ [l]).flatMap cM = L.flatMap cM ++ cM l := by
  rw [List.flatMap_append]
  simp
def IdxM (r : Nat) (h : Hp) (L : List Ln) : Prop := ∀ i (hi : i < L.length), h.1 r i = nI (offM L i) ∧ h.1 (r + 1) i = nI (offM L i + L[i].1.length) ∧ h.1 (r + 2) i = nI (offM L i + (cM L[i]).length)
def LnsM (h : Hp) (L : List Ln) : Prop := h.1 53 22 = nI L.length ∧ MD 0 h (L.flatMap cM) ∧ IdxM 67 h L
theorem lnsM_app {T : Nat → Int32} {n p : Nat} {h : Hp} {L : List Ln} {q : Bool × Nat × Ln} {t : Int32 × Hp} (H : LnsM h L) (E : LinM T n p L.length h (L.flatMap cM) q t) (hq : q.1 = true) : LnsM t.2 (L ++ [q.2.2]) := by
  obtain ⟨h1, h2, h3⟩ := H
  obtain ⟨e1, e2, e3, e4⟩ := E
  obtain ⟨g1, g2, g3, g4, g5, g6⟩ := e4 hq
  refine ⟨by rw [g2, List.length_append]; rfl, by rw [flat_app]; exact g1, fun i hi => ?_⟩
  rw [List.length_append] at hi
  simp only [List.length_cons, List.length_nil] at hi
  rw [offM_app _ _ (by omega)]
  by_cases e : i = L.length
  · subst e
    rw [offM_all, g3, g4, g5]
    simp
  · have hi2 : i < L.length := by omega
    obtain ⟨s1, s2, s3⟩ := g6 i e
    rw [s1, s2, s3, List.getElem_append_left hi2]
    exact h3 i hi2
def MidM (T : Nat → Int32) (n : Nat) (h : Hp) (Q : Bool × Nat × List Ln) (k : Nat) (s : Int32 × Hp) : Prop := FrL h s.2 ∧ ((s.1 = 1 ∧ ∃ p acc, p ≤ n ∧ 2 * k + 1 ≤ p ∧ acc.length = k + 1 ∧ (acc.flatMap cM).length ≤ p ∧ s.2.1 53 19 = nI p ∧ LnsM s.2 acc ∧ aftP T n (119 - k) p acc = Q) ∨ (s.1 = 0 ∧ Q.1 = false ∧ s.2.1 53 19 = nI Q.2.1))
def StopM (n : Nat) (h : Hp) (Q : Bool × Nat × List Ln) (s : Int32 × Hp) : Prop := FrL h s.2 ∧ ((s.1 = 1 ∧ ∃ p acc, p ≤ n ∧ acc.length ≤ 60 ∧ (acc.flatMap cM).length ≤ p ∧ s.2.1 53 19 = nI p ∧ LnsM s.2 acc ∧ (if n ≤ p then (true, p, acc) else (false, p, [])) = Q) ∨ (s.1 = 0 ∧ Q.1 = false ∧ s.2.1 53 19 = nI Q.2.1))
theorem mid_m {T : Nat → Int32} {n p k f : Nat} {h g : Hp} {L : List Ln} {Q : Bool × Nat × List Ln} {t : Int32 × Hp} (hk : L.length = k) (hp : p ≤ n) (h2 : 2 * k ≤ p) (hl : (L.flatMap cM).length ≤ p) (F : FrL h g) (H : LnsM g L) (E : LinM T n p L.length g (L.flatMap cM) (lnP T n p) t) (hf : f = 119 - k) (hQ : lnsP T n (f + 1) p L = Q) : MidM T n h Q k t := by
  obtain ⟨b1, b2⟩ := good_ln (T := T) hp
  have E' := E
  obtain ⟨e1, e2, e3, e4⟩ := E
  rw [lnsP_succ] at hQ
  refine ⟨F.trans e2, ?_⟩
  by_cases e : (lnP T n p).1 = true
  · obtain ⟨c1, c2, c3, c4⟩ := b2 e
    rw [if_pos e] at e1 hQ
    refine Or.inl ⟨e1, (lnP T n p).2.1, L ++ [(lnP T n p).2.2], b1, by omega, by rw [List.length_append, hk]; rfl, by rw [flat_app, List.length_append]; omega, e3, lnsM_app H E' e, ?_⟩
    rw [← hf]; exact hQ
  · rw [if_neg e] at e1 hQ
    subst hQ
    exact Or.inr ⟨e1, rfl, e3⟩
theorem lawloop_m {T : Nat → Int32} {n : Nat} {h : Hp} {Q : Bool × Nat × List Ln} {s : Int32 × Hp} (ok : TapeOk T n) (C : MT T n h) (S : MidM T n h Q 0 s) : Ev (iter b_X8_law_25 FU (s.1, s.2)) (StopM n h Q) := by
  have hn := ok.1
  refine ev_for (k := 0) (MidM T n h Q) 119 (fun k s hk hs => ?_) S (by decide) (by rw [FUe]; decide)
  obtain ⟨x, g⟩ := s
  obtain ⟨F, hs⟩ := hs
  simp only at F hs
  unfold b_X8_law_25
  rcases hs with ⟨s1, p, acc, s2, s3, s4, s5, s6, s7, s8⟩ | ⟨s1, s2, s3⟩
  · subst s1
    rw [if_neg (show ¬ ((1 : Int32) = 0) by decide)]
    have C1 := F.mt C
    simp only
    rw [is_m ok C1 s2 s6]
    unfold aftP at s8
    by_cases e : sgn T n p = 59
    · have hin := (sgn_m1 e (by decide)).1
      rw [if_neg (by omega), if_pos e] at s8
      rw [if_pos e]
      simp only [Option.bind_some]
      rw [if_neg (by decide)]
      obtain ⟨f1, f2⟩ := C1.at (p + 1)
      have D1 := s7.2.1.at (p + 1)
      have d22 : (stI g 53 19 (nI (p + 1))).1 53 22 = nI acc.length := by rw [f1.2 22 (by decide) (by decide) (by decide)]; exact s7.1
      have dI : IdxM 67 (stI g 53 19 (nI (p + 1))) acc := fun i hi => by
        rw [f1.1.i 67 (by decide), f1.1.i (67 + 1) (by decide), f1.1.i (67 + 2) (by decide)]
        exact s7.2.2 i hi
      refine ev_call (line_m ok (f1.l.mt C1) (show p + 1 ≤ n by omega) (by omega) f2 D1 (show acc.length ≤ 60 by omega) d22) (fun t ht => ?_)
      refine ev_some ⟨by omega, mid_m s4 (show p + 1 ≤ n by omega) (by omega) (by omega) (F.trans f1.l) ⟨d22, D1, dI⟩ ht rfl ?_⟩
      rw [show 119 - (k + 1) + 1 = 119 - k by omega]
      exact s8
    · rw [if_neg e] at s8
      rw [if_neg e]
      simp only [Option.bind_some, if_true]
      exact ev_some ⟨F, Or.inl ⟨rfl, p, acc, s2, by omega, s5, s6, s7, s8⟩⟩
  · subst s1
    rw [if_pos rfl]
    exact ev_some ⟨F, Or.inr ⟨rfl, s2, s3⟩⟩
/-- a law is set -/
def SetM (h : Hp) (L : List Ln) : Prop := h.1 53 14 = nI L.length ∧ L.length ≤ 60 ∧ (L.flatMap cM).length ≤ 120 ∧ IdxM 63 h L ∧ ∀ i (hi : i < (L.flatMap cM).length), h.1 66 i = nI (L.flatMap cM)[i]
theorem copy_m {g : Hp} {L : List Ln} (q : LR g) (h14 : g.1 53 14 = nI L.length) (hL : L.length ≤ 60) (hc : (L.flatMap cM).length ≤ 120) (H : LnsM g L) : Ev ((iter (b_X8_law_99) FU (0, g)).bind fun a23 => (iter (b_X8_law_151) FU (0, a23.2)).bind fun a27 => some ((1 : Int32), a27.2)) fun t => t.1 = 1 ∧ Kp [63, 64, 65, 66] g t.2 ∧ SetM t.2 L := by
  obtain ⟨H1, H2, H3⟩ := H
  refine ev_call (P := fun a : Int32 × Hp => Kp [63, 64, 65] g a.2 ∧ ∀ i, i < L.length → a.2.1 63 i = g.1 67 i ∧ a.2.1 64 i = g.1 68 i ∧ a.2.1 65 i = g.1 69 i) ?_ (fun a ha => ?_)
  · refine ev_for (k := 0) (fun k (s : Int32 × Hp) => s.1 = nI k ∧ Kp [63, 64, 65] g s.2 ∧ ∀ i, i < k → s.2.1 63 i = g.1 67 i ∧ s.2.1 64 i = g.1 68 i ∧ s.2.1 65 i = g.1 69 i) L.length (fun k s hk hs => ?_) ⟨rfl, Kp.refl q, fun i hi => by omega⟩ (by omega) (by rw [FUe]; omega)
    obtain ⟨x, t⟩ := s
    obtain ⟨s1, s2, s3⟩ := hs
    simp only at s1 s2 s3
    subst s1
    unfold b_X8_law_99
    simp only
    rw [s2.i 53 (by decide), h14]
    by_cases e : L.length ≤ k
    · rw [if_pos (nI_le e (by omega))]
      have ek : k = L.length := by omega
      subst ek
      exact ev_some ⟨s2, s3⟩
    · rw [if_neg (by rw [nI_leI (by omega) (by omega)]; exact e)]
      rw [rd_67 (by omega)]
      simp only [Option.bind_some]
      rw [wr_63 (by omega)]
      simp only [Option.bind_some]
      rw [rd_68 (by omega)]
      simp only [Option.bind_some]
      rw [wr_64 (by omega)]
      simp only [Option.bind_some]
      rw [rd_69 (by omega)]
      simp only [Option.bind_some]
      rw [wr_65 (by omega)]
      simp only [Option.bind_some]
      refine ev_some ⟨by omega, by rw [nl1, nI_add], ((s2.st (by decide)).st (by decide)).st (by decide), fun i hi => ?_⟩
      have k67 := s2.i 67 (by decide)
      have k68 := s2.i 68 (by decide)
      have k69 := s2.i 69 (by decide)
      by_cases ei : i = k
      · subst ei
        simp [stI_at, k67, k68, k69]
      · obtain ⟨z1, z2, z3⟩ := s3 i (by omega)
        simp [stI_at, ei, z1, z2, z3]
  · obtain ⟨a1, a2⟩ := ha
    have a21 : a.2.1 53 21 = nI (L.flatMap cM).length := by rw [a1.i 53 (by decide)]; exact H2.2.1
    refine ev_call (P := fun b : Int32 × Hp => Kp [66] a.2 b.2 ∧ ∀ i, i < (L.flatMap cM).length → b.2.1 66 i = a.2.1 70 i) ?_ (fun b hb => ?_)
    · refine ev_for (k := 0) (fun k (s : Int32 × Hp) => s.1 = nI k ∧ Kp [66] a.2 s.2 ∧ ∀ i, i < k → s.2.1 66 i = a.2.1 70 i) (L.flatMap cM).length (fun k s hk hs => ?_) ⟨rfl, Kp.refl a1.1, fun i hi => by omega⟩ (by omega) (by rw [FUe]; omega)
      obtain ⟨x, t⟩ := s
      obtain ⟨s1, s2, s3⟩ := hs
      simp only at s1 s2 s3
      subst s1
      unfold b_X8_law_151
      simp only
      rw [s2.i 53 (by decide), a21]
      by_cases e : (L.flatMap cM).length ≤ k
      · rw [if_pos (nI_le e (by omega))]
        have ek : k = (L.flatMap cM).length := by omega
        subst ek
        exact ev_some ⟨s2, s3⟩
      · rw [if_neg (by rw [nI_leI (by omega) (by omega)]; exact e)]
        rw [rd_70 (by omega)]
        simp only [Option.bind_some]
        rw [wr_66 (by omega)]
        simp only [Option.bind_some]
        refine ev_some ⟨by omega, by rw [nl1, nI_add], s2.st (by decide), fun i hi => ?_⟩
        have k70 := s2.i 70 (by decide)
        by_cases ei : i = k
        · subst ei
          simp [stI_at, k70]
        · simp [stI_at, ei, s3 i (by omega)]
    · obtain ⟨b1, b2⟩ := hb
      refine ev_some ⟨rfl, (a1.mono (by decide)).trans (b1.mono (by decide)), ?_, hL, hc, fun i hi => ?_, fun i hi => ?_⟩
      · show b.2.1 53 14 = _
        rw [b1.i 53 (by decide), a1.i 53 (by decide)]; exact h14
      · show b.2.1 63 i = _ ∧ b.2.1 64 i = _ ∧ b.2.1 65 i = _
        rw [b1.i 63 (by decide), b1.i 64 (by decide), b1.i 65 (by decide)]
        obtain ⟨z1, z2, z3⟩ := a2 i hi
        rw [z1, z2, z3]
        exact H3 i hi
      · show b.2.1 66 i = _
        rw [b2 i hi, a1.i 70 (by decide)]
        exact H2.2.2 i hi
