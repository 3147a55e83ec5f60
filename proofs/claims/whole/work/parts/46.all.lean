/-- the cells of a thought: class's and reference's -/
def calAll (f : Fo) (φ : Ph) (s : Sc) (hs : Nat) : Nat → Sc
  | 0 => s
  | n + 1 => cal f φ (calAll f φ s hs n) n hs
theorem calAll_ok {f : Fo} {φ : Ph} {s : Sc} {w : Nat} (so : ScOk w s) {hs : Nat} : ∀ n, ScOk w (calAll f φ s hs n)
  | 0 => so
  | n + 1 => cal_ok (calAll_ok so n)
/-- what a thought of the class stands on -/
def ThX (f : Fo) (φ : Ph) (s : Sc) (h g : Hp) : Prop := Kp [11, 12, 17, 18, 19, 20] h g ∧ ScX (foW f) s 17 g
theorem ThX.thk {f : Fo} {φ : Ph} {s : Sc} {h g : Hp} (ok : FoOk f) (T : ThX f φ s h g) : Thk 17 g := ⟨_, msk_lt12 ok.2.1, T.2.2.2.1⟩
theorem ThX.start {f : Fo} {s : Sc} {φ : Ph} {b : Nat} {h : Hp} (R : RelA f s φ b h) : ∃ g, f_X5_become 17 13 h = some g ∧ ThX f φ s h g := by
  obtain ⟨g, h1, h2, h3, h4⟩ := become_x (Or.inr rfl) R.1.1 R.1.2.2.1.2.1 R.2.1.2.2.1 R.thk
  exact ⟨g, h1, h4.mono (by decide), h2⟩
theorem ThX.call {f : Fo} {s s' : Sc} {φ : Ph} {b : Nat} {h g : Hp} (R : RelA f s φ b h) (so : ScOk (foW f) s') (T : ThX f φ s' h g) {i hs : Nat} (hi : i < foW f) (hh : hs < 12) : Ev (f_X7_forgive 17 (nI i) (nI hs) g) fun r => r.1 = nI (calN f φ s' i hs) ∧ ThX f φ (cal f φ s' i hs) h r.2 := by
  refine ev_mono (forgive_x ok17 T.1.1 R.1.2.1 R.1.2.2.1 so (R.2.1.1.kp T.1 (by decide)) T.2 (R.2.2.1.1.kp T.1 (by decide)) hi hh) (fun r hr => ⟨hr.1, T.1.trans (hr.2.2.mono (by decide)), hr.2.1⟩)
/-- what a thought of the reference stands on: its scene kept in c -/
def ThM (f : Fo) (φ : Ph) (s s' : Sc) (c : Nat) (h g : Hp) : Prop := Kp [53, 54, 60, 61, 71, 72, c] h g ∧ (∀ j, j ≠ 10 → g.1 53 j = h.1 53 j) ∧ ScM (foW f) s' g ∧ ∃ k, KeptAt c h k ∧ g.1 c = k.1 c
theorem okc_out {c : Nat} (hc : c = 82 ∨ c = 83) : OkC c ∧ ∀ a, a = 53 ∨ a = 54 ∨ a = 60 ∨ a = 61 ∨ a = 71 ∨ a = 72 → a ≠ c := by
  rcases hc with rfl | rfl
  · exact ⟨okc82, fun a h => by omega⟩
  · exact ⟨okc83, fun a h => by omega⟩
theorem ThM.start {f : Fo} {s : Sc} {φ : Ph} {b : Nat} {h : Hp} (R : RelA f s φ b h) {c : Nat} (hc : c = 82 ∨ c = 83) : Ev (f_X8_keeps c h) fun g => ThM f φ s s c h g := by
  refine ev_mono (keeps_m (okc_out hc).1 R.1.1) (fun g hg => ?_)
  have K := hg.2
  have n : ∀ a, a ≠ c → g.1 a = h.1 a := fun a ha => K.i a (by simp [ha])
  have hn := (okc_out hc).2
  refine ⟨K.mono (by simp), fun j _ => by rw [n 53 (hn 53 (by decide))], ?_, g, hg.1, rfl⟩
  exact R.2.1.2.2.2.eq (n 54 (hn _ (by decide))) (n 60 (hn _ (by decide))) (n 61 (hn _ (by decide))) (by rw [n 53 (hn _ (by decide))])
theorem ThM.fo {f : Fo} {s s' : Sc} {φ : Ph} {b : Nat} {h g : Hp} (R : RelA f s φ b h) {c : Nat} (hc : c = 82 ∨ c = 83) (T : ThM f φ s s' c h g) : FoM f g ∧ LawM φ g := by
  obtain ⟨K, e, _⟩ := T
  have n : ∀ a, [53, 54, 60, 61, 71, 72, c].contains a = false → g.1 a = h.1 a := fun a ha => K.i a ha
  have m : ∀ a, a = 55 ∨ a = 56 ∨ a = 57 ∨ a = 58 ∨ a = 59 ∨ a = 63 ∨ a = 64 ∨ a = 65 ∨ a = 66 → g.1 a = h.1 a := fun a ha => n a (by simp; omega)
  exact ⟨R.2.1.2.1.eq (e 1 (by decide)) (e 4 (by decide)) (m 55 (by decide)) (m 56 (by decide)) (m 57 (by decide)) (m 58 (by decide)) (m 59 (by decide)), R.2.2.1.2.eq (e 13 (by decide)) (e 14 (by decide)) (m 63 (by decide)) (m 64 (by decide)) (m 65 (by decide)) (m 66 (by decide))⟩
theorem ThM.call {f : Fo} {s s' : Sc} {φ : Ph} {b : Nat} {h g : Hp} (R : RelA f s φ b h) (so : ScOk (foW f) s') {c : Nat} (hc : c = 82 ∨ c = 83) (T : ThM f φ s s' c h g) {i hs : Nat} (hi : i < foW f) (hh : hs < 12) : Ev (f_X8_calls (nI i) (nI hs) g) fun r => r.1 = nI (calN f φ s' i hs) ∧ ThM f φ s (cal f φ s' i hs) c h r.2 := by
  obtain ⟨F, L⟩ := T.fo R hc
  obtain ⟨K, e, S, k, k1, k2⟩ := T
  refine ev_mono (calls_m K.1 R.1.2.1 R.1.2.2.1 so F S L hi hh) (fun r hr => ⟨hr.1, K.trans (hr.2.2.mono (by simp)), fun j hj => ?_, hr.2.1, k, k1, ?_⟩)
  · rw [hr.2.2.i 53 (by decide), e j hj]
  · rw [hr.2.2.i c (by simp; omega), k2]
/-- the reference lays its scene back: all stands as before -/
theorem ThM.stop {f : Fo} {s s' : Sc} {φ : Ph} {b : Nat} {h g : Hp} (R : RelA f s φ b h) {c : Nat} (hc : c = 82 ∨ c = 83) (T : ThM f φ s s' c h g) : Ev (f_X8_laysBack c g) fun k => RelA f s φ b k := by
  obtain ⟨K, e, S, k, k1, k2⟩ := T
  refine ev_mono (lays_m (okc_out hc).1 K.1) (fun g' hg' => ?_)
  have KK : Kp [53, 54, 60, 61, 71, 72, c] h g' := K.trans (hg'.2.mono (by simp))
  have hm : Kp BIG h g' := KK.mono (by rcases hc with rfl | rfl <;> decide)
  refine R.up hm (fun j hj => by rw [hg'.1.2.2 j hj, e j hj]) R.1.2.2.2 (R.2.1.2.2.1.eq (KK.i 13 (by simp; omega)) (KK.i 14 (by simp; omega)) (KK.i 15 (by simp; omega))) (laid R.1.2.2.1.2.1 R.2.1.2.2.2 k1 k2 hg'.1) (R.2.2.2.1.eq (KK.i 16 (by simp; omega)) (KK.i 73 (by simp; omega))) (R.thk.eq (KK.i 17 (by simp; omega)))
theorem ThX.rel {f : Fo} {s s' : Sc} {φ : Ph} {b : Nat} {h g : Hp} (R : RelA f s φ b h) (T : ThX f φ s' h g) : RelA f s φ b g := R.scr (T.1.mono (by decide)) (T.thk R.1.2.2.1)
theorem a_all (v : Int32) (h : Hp) (R : Rel h) : Ag (f_X7_all v h) (f_X8_all v) := by
  have R0 := R
  obtain ⟨f, s, φ, b, R0A⟩ := R
  have ok := R0A.1.2.2.1
  have so := R0A.1.2.2.2
  have n10 : ¬ (1 : Int32) = 0 := by decide
  have hw := ok.2.1
  rcases house_c v with ⟨n, hn, rfl, e1, e2⟩ | ⟨e1, e2⟩
  · unfold Ag f_X7_all
    rw [e1]
    simp only [Option.bind_some, if_neg n10]
    obtain ⟨g, g1, g2⟩ := ThX.start R0A
    rw [g1]
    simp only [Option.bind_some]
    refine ev_call (P := fun u : Int32 × Hp => ThX f φ (calAll f φ s n (foW f)) h u.2) (ev_for (k := 0) (fun k (u : Int32 × Hp) => u.1 = nI k ∧ ThX f φ (calAll f φ s n k) h u.2) (foW f) (fun k u hk hP => ?_) ⟨rfl, g2⟩ (Nat.zero_le _) (by rw [FUe]; omega)) (fun u hu => ?_)
    · obtain ⟨x, y⟩ := u
      obtain ⟨p1, p2⟩ := hP
      simp only at p1 p2
      subst p1
      have F := R0A.2.1.1.kp p2.1 (by decide)
      unfold b_X7_all_22
      rw [F.2.1]
      by_cases z : foW f ≤ k
      · rw [if_pos (nI_le z (by omega))]
        have : k = foW f := by omega
        subst this
        exact ev_some p2
      · rw [if_neg (by rw [nI_leI (by omega) (by omega)]; exact z)]
        refine ev_call (ThX.call R0A (calAll_ok so k) p2 (by omega) hn) (fun r hr => ev_some ⟨by omega, by rw [nl1, nI_add], hr.2⟩)
    · rw [rd_18 hn, hu.2.n17 hn]
      refine ⟨_, rfl, ?_⟩
      have RA := ThX.rel R0A hu
      simp only
      unfold f_X8_all
      rw [e2]
      simp only [Option.bind_some, if_neg n10]
      refine ev_call (ThM.start RA (Or.inl rfl)) (fun k hk => ?_)
      refine ev_call (P := fun t : Int32 × Hp => ThM f φ s (calAll f φ s n (foW f)) 82 u.2 t.2) (ev_for (k := 0) (fun i (t : Int32 × Hp) => t.1 = nI i ∧ ThM f φ s (calAll f φ s n i) 82 u.2 t.2) (foW f) (fun i t hi hP => ?_) ⟨rfl, hk⟩ (Nat.zero_le _) (by rw [FUe]; omega)) (fun t ht => ?_)
      · obtain ⟨x, y⟩ := t
        obtain ⟨p1, p2⟩ := hP
        simp only at p1 p2
        subst p1
        have F := (p2.fo RA (Or.inl rfl)).1
        unfold b_X8_all_19
        rw [F.2.1]
        by_cases z : foW f ≤ i
        · rw [if_pos (nI_le z (by omega))]
          have : i = foW f := by omega
          subst this
          exact ev_some p2
        · rw [if_neg (by rw [nI_leI (by omega) (by omega)]; exact z)]
          refine ev_call (ThM.call RA (calAll_ok so i) (Or.inl rfl) p2 (by omega) hn) (fun r hr => ev_some ⟨by omega, by rw [nl1, nI_add], hr.2⟩)
      · rw [rd_54 hn, ht.2.2.1.1 n hn]
        simp only [Option.bind_some]
        refine ev_call (ThM.stop RA (Or.inl rfl) ht) (fun r hr => ev_some ⟨rfl, hr.n⟩)
  · refine ag_same R0 (v := -1) ?_ ?_
    · unfold f_X7_all; rw [e1]; rfl
    · unfold f_X8_all; rw [e2]; rfl
