theorem quarter_c (a : Int32) : (∃ n, n < 4 ∧ a = nI n ∧ f_X8_within a 0 3 = some 1 ∧ ¬ a < 0 ∧ a ≤ 3) ∨ (f_X8_within a 0 3 = some 0 ∧ (a < 0 ∨ ¬ a ≤ 3)) := by
  rcases i32_split a with ⟨n, hn, rfl⟩ | ha
  · by_cases q : n < 4
    · left
      exact ⟨n, q, rfl, by rw [nl0, nl3, within_in (by omega) (by omega) (by decide)], nI_pos hn, by rw [nl3]; exact nI_le (by omega) (by decide)⟩
    · right
      refine ⟨by rw [nl0, nl3, within_out (by omega) hn (by decide) (by decide)]; rfl, Or.inr (by rw [nl3, nI_leI hn (by decide)]; omega)⟩
  · right
    exact ⟨by rw [nl0, within_neg ha (by decide)]; rfl, Or.inl ha⟩
theorem a_street (v w u : Int32) (h : Hp) (R : Rel h) : Ag (f_X7_street v w u h) (f_X8_street v w u) := by
  have R0 := R
  obtain ⟨f, s, φ, b, R0A⟩ := R
  have n10 : ¬ (1 : Int32) = 0 := by decide
  have r15 := R0A.2.2.2.2.2.2.2.1
  have hb := R0A.2.2.2.2.2.2.2.2.1
  have hw := R0A.1.2.2.1.2.1
  rcases shelf_c v with ⟨k, hk, rfl, e1, e2⟩ | ⟨e1, e2⟩
  · rcases calls_c w with ⟨m, hm, rfl, e3, e4⟩ | ⟨e3, e4⟩
    · rcases quarter_c u with ⟨i, hi, rfl, e6, c1, c2⟩ | ⟨e6, c1⟩
      · obtain ⟨w1, n, w2, w3, w4⟩ := r15 k hk
        rcases paint_c hb hk w1 with ⟨p1, p2⟩ | ⟨p1, p2⟩ | ⟨p1, p2, p3, p4⟩
        · refine ag_same R0 (v := -11) ?_ ?_
          · unfold f_X7_street; rw [e1, e3]; simp only [Option.bind_some, if_neg n10]; rw [if_neg c1, if_pos c2, p1]; rfl
          · unfold f_X8_street; rw [e2, e4, e6, p2]; rfl
        · refine ag_same R0 (v := -12) ?_ ?_
          · unfold f_X7_street; rw [e1, e3]; simp only [Option.bind_some, if_neg n10]; rw [if_neg c1, if_pos c2, p1]; rfl
          · unfold f_X8_street; rw [e2, e4, e6, p2]; rfl
        · unfold Ag f_X7_street
          rw [e1, e3]
          simp only [Option.bind_some, if_neg n10]
          rw [if_neg c1, if_pos c2, p1]
          simp only [Option.bind_some]
          rw [if_pos trivial]
          refine ev_call (think_x R0A hk w2 hm w3 (V := fun j => (h.2.1 (32 + k) j).toInt32) (fun j _ => rfl)) (fun t ht => ?_)
          obtain ⟨t1, t2⟩ := ht
          have RA := ThX.rel R0A t2
          have so' : ScOk (foW f) (thk (fun j => (h.2.1 (32 + k) j).toInt32) f φ s (min m (lead (fun j => (h.2.1 (32 + k) j).toInt32) (foW f) 0 (min 40 n)))) := thk_ok R0A.1.2.2.2 _
          generalize hS : thk (fun j => (h.2.1 (32 + k) j).toInt32) f φ s (min m (lead (fun j => (h.2.1 (32 + k) j).toInt32) (foW f) 0 (min 40 n))) = S at t2 so'
          generalize hF : fstS (fun j => (h.2.1 (32 + k) j).toInt32) f φ s (min m (lead (fun j => (h.2.1 (32 + k) j).toInt32) (foW f) 0 (min 40 n))) = Fs at t1
          have p2' : f_X8_noCalls (nI k) t.2 = some 0 := by
            have : f_X8_noCalls (nI k) t.2 = f_X8_noCalls (nI k) h := by
              unfold f_X8_noCalls
              rw [rd_79 hk, rd_79 hk, t2.1.i 79 (by decide)]
            rw [this, p2]
          have key : ∀ x : Int32, (x = if i = 0 then nI (msk (scF S) (foW f)) else if i = 1 then sumN S 12 else if i = 2 then Fs else alV S) → Ev (f_X8_street (nI k) (nI m) (nI i) t.2) fun r => x = r.1 ∧ Rel r.2 := by
            intro x hx
            unfold f_X8_street
            rw [e2, e4, e6]
            simp only [Option.bind_some, if_neg n10]
            rw [p2']
            simp only [Option.bind_some]
            rw [if_pos (by decide)]
            refine ev_call (ThM.start RA (Or.inl rfl)) (fun g hg => ?_)
            refine ev_call (goes_m RA hg hk w2 hm (by rw [t2.1.i 80 (by decide), w4]) (V := fun j => (h.2.1 (32 + k) j).toInt32) (fun j hj => by rw [t2.1.l 81 (by decide), p3 j hj])) (fun c hc => ?_)
            rw [hS, hF] at hc
            have hstop := ThM.stop RA (Or.inl rfl) hc.2
            have FM := (hc.2.fo RA (Or.inl rfl)).1
            match i, hi with
            | 0, _ =>
              rw [if_pos rfl] at hx
              rw [if_pos (by decide)]
              refine ev_call (forg_m hw FM hc.2.2.2.1) (fun r hr => ?_)
              exact ev_call hstop (fun y hy => ev_some ⟨by rw [hx, hr], hy.n⟩)
            | 1, _ =>
              rw [if_neg (by decide), if_pos rfl] at hx
              rw [if_neg (by decide), if_pos (by decide)]
              refine ev_call (total_m hc.2.2.2.1) (fun r hr => ?_)
              exact ev_call hstop (fun y hy => ev_some ⟨by rw [hx, hr], hy.n⟩)
            | 2, _ =>
              rw [if_neg (by decide), if_neg (by decide), if_pos rfl] at hx
              rw [if_neg (by decide), if_neg (by decide), if_pos (by decide)]
              exact ev_call hstop (fun y hy => ev_some ⟨by rw [hx, hc.1], hy.n⟩)
            | 3, _ =>
              rw [if_neg (by decide), if_neg (by decide), if_neg (by decide)] at hx
              rw [if_neg (by decide), if_neg (by decide), if_neg (by decide)]
              refine ev_call (alike_m so' hc.2.2.2.1) (fun r hr => ?_)
              exact ev_call hstop (fun y hy => ev_some ⟨by rw [hx, hr], hy.n⟩)
          match i, hi with
          | 0, _ =>
            rw [if_pos (by decide)]
            exact ev_some (key _ (by rw [if_pos rfl]; exact t2.2.2.2.1))
          | 1, _ =>
            rw [if_neg (by decide), if_pos (by decide)]
            refine ev_call (total_x t2) (fun r hr => ev_some (key _ (by rw [if_neg (by decide), if_pos rfl]; exact hr)))
          | 2, _ =>
            rw [if_neg (by decide), if_neg (by decide), if_pos (by decide)]
            exact ev_some (key _ (by rw [if_neg (by decide), if_neg (by decide), if_pos rfl]; exact t1))
          | 3, _ =>
            rw [if_neg (by decide), if_neg (by decide), if_neg (by decide)]
            refine ev_call (alike_x so' t2.2) (fun r hr => ev_some (key _ (by rw [if_neg (by decide), if_neg (by decide), if_neg (by decide)]; exact hr)))
      · refine ag_same R0 (v := -1) ?_ ?_
        · unfold f_X7_street; rw [e1, e3]; simp only [Option.bind_some, if_neg n10]
          rcases c1 with c1 | c1
          · rw [if_pos c1]
          · by_cases z : u < 0
            · rw [if_pos z]
            · rw [if_neg z, if_neg c1]
        · unfold f_X8_street; rw [e2, e4, e6]; rfl
    · refine ag_same R0 (v := -1) ?_ ?_
      · unfold f_X7_street; rw [e1, e3]; rfl
      · unfold f_X8_street; rw [e2, e4]; rfl
  · refine ag_same R0 (v := -1) ?_ ?_
    · unfold f_X7_street; rw [e1]; rfl
    · unfold f_X8_street; rw [e2]; rfl
